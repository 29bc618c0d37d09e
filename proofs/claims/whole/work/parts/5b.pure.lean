/-! PURE ROWS: who serves where, the reference -/
theorem ixR1024 (i k : Nat) : 1024 * nI i + nI k = nI (1024 * i + k) := by
  unfold nI
  rw [show (1024 : Int32) = Int32.ofNat 1024 from rfl, ← Int32.ofNat_mul, ← Int32.ofNat_add]
theorem msF_more {wt : Nat → Nat} {s : Nat} {G : Nat → Nat} (f m : Nat) : ∀ t a, (∀ k, t + f ≤ k → k < t + f + m → wt k = 0) → msF wt s G (f + m) t a = msF wt s G f t a := by
  induction f with
  | zero =>
    intro t a h
    rw [Nat.zero_add]
    have : ∀ m t a, (∀ k, t ≤ k → k < t + m → wt k = 0) → msF wt s G m t a = a := by
      intro m
      induction m with
      | zero => intro t a _; rfl
      | succ m ih =>
        intro t a h
        show msF wt s G m (t + 1) (if 0 < wt t ∧ bt10 s t = false then _ else a) = a
        rw [h t (Nat.le_refl t) (by omega), if_neg (by omega), ih (t + 1) a (fun k h1 h2 => h k (by omega) (by omega))]
    exact this m t a (fun k h1 h2 => h k (by omega) (by omega))
  | succ f ih =>
    intro t a h
    rw [show f + 1 + m = f + m + 1 by omega]
    show msF wt s G (f + m) (t + 1) _ = msF wt s G f (t + 1) _
    exact ih (t + 1) _ (fun k h1 h2 => h k (by omega) (by omega))
theorem fhF_more {wt : Nat → Nat} {s b : Nat} {G : Nat → Nat} (f m : Nat) : ∀ t, (∀ k, t + f ≤ k → k < t + f + m → wt k = 0) → fhF wt s G b (f + m) t = fhF wt s G b f t := by
  induction f with
  | zero =>
    intro t h
    rw [Nat.zero_add]
    have : ∀ m t, (∀ k, t ≤ k → k < t + m → wt k = 0) → fhF wt s G b m t = none := by
      intro m
      induction m with
      | zero => intro t _; rfl
      | succ m ih =>
        intro t h
        show (if 0 < wt t ∧ bt10 s t = false ∧ wt t + G (s ||| 2 ^ t) = b then some t else fhF wt s G b m (t + 1)) = none
        rw [h t (Nat.le_refl t) (by omega), if_neg (by omega), ih (t + 1) (fun k h1 h2 => h k (by omega) (by omega))]
    exact this m t (fun k h1 h2 => h k (by omega) (by omega))
  | succ f ih =>
    intro t h
    rw [show f + 1 + m = f + m + 1 by omega]
    show (if _ then _ else fhF wt s G b (f + m) (t + 1)) = (if _ then _ else fhF wt s G b f (t + 1))
    rw [ih (t + 1) (fun k h1 h2 => h k (by omega) (by omega))]
theorem or_ltn {s t n : Nat} (hs : s < 2 ^ n) (ht : t < n) : s ||| 2 ^ t < 2 ^ n := Nat.or_lt_two_pow hs (Nat.pow_lt_pow_right (by omega) ht)
theorem served_s (g : zg) {m n i t s : Nat} {I : zI} {N : zM} (hp : POJ m I N.1) (hn : n ≤ 10) (hi : i < m) (ht : t < n) (hh : cEq0 (N.1 73 (38 + t)) = true) (hs : s < 2 ^ n) : X_X12_servedBy g [.ref 72, .int (nI i), .int (nI t), .int (nI s)] N = some (some (.int (nI (wtN (N.1 76) (N.1 95) (N.1 96) (N.1 73) n m i t) + N.1 97 (1024 * (i + 1) + (s ||| 2 ^ t)))), N) := by
  have hm := hp.1
  have h2n : 2 ^ n ≤ 1024 := Nat.pow_le_pow_right (n := 2) (by omega) hn
  have hor := or_ltn hs ht
  obtain ⟨e1, e2, e3⟩ := POJ_w hp hi
  unfold wtN
  rw [if_pos ⟨hi, ht, hh⟩, x_X12_servedBy_0, zbT (by omega) (by omega), bif_t, zbT (by omega) (by omega), bif_t, bif_t, one_sh (by omega), nI_or, nI_s1, ixR1024, zbT (by omega) (by omega), bif_t, bif_t, zx_nI (by omega), zx_nI (by omega), zx_nI (by omega), bif_push]
  by_cases e : N.1 95 i = N.1 76 t
  · rw [cEq_s e.symm, bif_t, if_pos e, show N.1 96 i * 2 = nI (2 * zx (N.1 96 i)) from by rw [e1, zx_nI (by omega), Int32.mul_comm]; exact ix2 _]
  · rw [cEq_n (fun h => e h.symm), bif_f, if_neg e, Int32.mul_one, ← e1]
/-- the reference's table from post i on -/
def TR (wt : Nat → Nat → Nat) (m n i : Nat) (T : Nat → Int32) : Prop := ∀ i', i ≤ i' → i' ≤ m → ∀ s, s < 2 ^ n → T (1024 * i' + s) = nI (gsN wt m (m - i') s)
theorem fs_57 (g : zg) {m n i s d : Nat} {I : zI} {N : zM} (hp : POJ m I N.1) (hn : n ≤ 10) (hm6 : N.1 72 6 = nI n) (hi : i < m) (hs : s < 2 ^ n) (hT : TR (fun i t => wtN (N.1 76) (N.1 95) (N.1 96) (N.1 73) n m i t) m n (i + 1) (N.1 97)) (f : Nat) : ∀ t a, t + f = n → a ≤ 10000 → zX (t_X12_findsServed g) 57 [some (.ref 72), some (.int (nI (hereN (N.1 73) n))), some (.int (nI i)), some (.int (nI s)), some (.int (nI a)), some (.int (nI t))] [] N = zX (t_X12_findsServed g) 16 [some (.ref 72), some (.int (nI (hereN (N.1 73) n))), some (.int (nI i)), some (.int (nI (s + 1))), none, none] [] ((zu N.1 97 (1024 * i + s) (nI (msF (fun t => wtN (N.1 76) (N.1 95) (N.1 96) (N.1 73) n m i t) s (gsN (fun i t => wtN (N.1 76) (N.1 95) (N.1 96) (N.1 73) n m i t) m (m - (i + 1))) f t a))), N.2) := by
  have hm := hp.1
  have h2n : 2 ^ n ≤ 1024 := Nat.pow_le_pow_right (n := 2) (by omega) hn
  have hb := seF_set (p := fun t => cEq0 (N.1 73 (38 + t))) hn
  induction f with
  | zero =>
    intro t a ht ha
    rw [e_X12_findsServed_57, hm6, cLtF (by omega) (by omega), bif_f, ixR1024, zbT (by omega) (by omega), bif_t, zx_nI (by omega), nI_s1]
    rfl
  | succ f ih =>
    intro t a ht ha
    have hd : dif (hereN (N.1 73) n) s < 1024 := dif_lt hb.2.1
    have hbit : bt10 (dif (hereN (N.1 73) n) s) t = (cEq0 (N.1 73 (38 + t)) && !bt10 s t) := by
      rw [dif_bt]
      unfold hereN
      rw [hb.2.2 t, decide_eq_true (show t < n by omega), Bool.true_and]
    rw [e_X12_findsServed_57, hm6, cLtT (by omega) (by omega), bif_t, hp.2.2.1, cLtT (by omega) (by omega), bif_t, dif_s, has_s g (by omega) (by omega), zbI_s, cEq0_b01, hbit, nI_s1]
    have stp : msF (fun t => wtN (N.1 76) (N.1 95) (N.1 96) (N.1 73) n m i t) s (gsN (fun i t => wtN (N.1 76) (N.1 95) (N.1 96) (N.1 73) n m i t) m (m - (i + 1))) (f + 1) t a = msF (fun t => wtN (N.1 76) (N.1 95) (N.1 96) (N.1 73) n m i t) s (gsN (fun i t => wtN (N.1 76) (N.1 95) (N.1 96) (N.1 73) n m i t) m (m - (i + 1))) f (t + 1) (if 0 < wtN (N.1 76) (N.1 95) (N.1 96) (N.1 73) n m i t ∧ bt10 s t = false then max a (wtN (N.1 76) (N.1 95) (N.1 96) (N.1 73) n m i t + gsN (fun i t => wtN (N.1 76) (N.1 95) (N.1 96) (N.1 73) n m i t) m (m - (i + 1)) (s ||| 2 ^ t)) else a) := rfl
    rw [stp]
    cases hE : cEq0 (N.1 73 (38 + t))
    · rw [Bool.false_and, Bool.not_false, bif_t, if_neg (fun x => by
        have := ((wtN_pos hp hi).mp x.1).2
        rw [hE] at this
        cases this)]
      exact ih (t + 1) a (by omega) ha
    · cases hB : bt10 s t
      · have hw := wtN_le (n := n) (i := i) (t := t) hp
        have hg : gsN (fun i t => wtN (N.1 76) (N.1 95) (N.1 96) (N.1 73) n m i t) m (m - (i + 1)) (s ||| 2 ^ t) ≤ 2000 := Nat.le_trans (gsN_le (fun i t => wtN_le hp) _ _) (by omega)
        rw [Bool.not_false, Bool.and_true, Bool.not_true, bif_f, served_s g hp hn hi (by omega) hE hs, zbI_s, hT (i + 1) (by omega) (by omega) (s ||| 2 ^ t) (or_ltn hs (by omega)), nI_ad2, x_X12_greater_0, bif_push, zbI_s, if_pos ⟨(wtN_pos hp hi).mpr ⟨by omega, hE⟩, rfl⟩]
        obtain ⟨y, hy⟩ : ∃ y, y = wtN (N.1 76) (N.1 95) (N.1 96) (N.1 73) n m i t + gsN (fun i t => wtN (N.1 76) (N.1 95) (N.1 96) (N.1 73) n m i t) m (m - (i + 1)) (s ||| 2 ^ t) := ⟨_, rfl⟩
        have hyb : y ≤ 2198 := by rw [hy]; omega
        rw [← hy]
        have em : (bif cGt (nI a) (nI y) then nI a else nI y) = nI (max a y) := by
          rw [cGt_nI (by omega) (by omega)]
          by_cases hq : y < a
          · rw [decide_eq_true hq, bif_t, Nat.max_eq_left (by omega)]
          · rw [decide_eq_false hq, bif_f, Nat.max_eq_right (by omega)]
        rw [em]
        exact ih (t + 1) (max a y) (by omega) (by omega)
      · rw [Bool.not_true, Bool.and_false, Bool.not_false, bif_t, if_neg (fun x => by cases x.2)]
        exact ih (t + 1) a (by omega) ha

/-- what findsServed reads of the reference -/
def FSame (N0 N : zI) : Prop := ∀ a, a ≠ 97 → N a = N0 a
theorem fs_16 (g : zg) {m n i : Nat} {I N0 : zI} (hp : POJ m I N0) (hn : n ≤ 10) (hm6 : N0 72 6 = nI n) (hi : i ≤ m) (f : Nat) : ∀ (s : Nat) (N : zM), s + f = 2 ^ n → FSame N0 N.1 → TR (fun i t => wtN (N0 76) (N0 95) (N0 96) (N0 73) n m i t) m n (i + 1) (N.1 97) → (∀ x, x < s → N.1 97 (1024 * i + x) = nI (gsN (fun i t => wtN (N0 76) (N0 95) (N0 96) (N0 73) n m i t) m (m - i) x)) → ∃ J', zX (t_X12_findsServed g) 16 [some (.ref 72), some (.int (nI (hereN (N0 73) n))), some (.int (nI i)), some (.int (nI s)), none, none] [] N = zX (t_X12_findsServed g) 10 [some (.ref 72), some (.int (nI (hereN (N0 73) n))), some (.int (nI i + (-1))), none, none, none] [] (J', N.2) ∧ FSame N0 J' ∧ TR (fun i t => wtN (N0 76) (N0 95) (N0 96) (N0 73) n m i t) m n i (J' 97) := by
  have hm := hp.1
  have h2n : 2 ^ n ≤ 1024 := Nat.pow_le_pow_right (n := 2) (by omega) hn
  induction f with
  | zero =>
    intro s N hs hF hT hx
    refine ⟨N.1, ?_, hF, ?_⟩
    · rw [e_X12_findsServed_16, hF 72 (by omega), hm6, one_sh (by omega), cLtF (by omega) (by omega), bif_f]
    · intro i' h1 h3 x hx'
      by_cases e : i' = i
      · subst e; exact hx x (by omega)
      · exact hT i' (by omega) h3 x hx'
  | succ f ih =>
    intro s N hs hF hT hx
    have hG : ∀ j x, j ≤ 6 → gsN (fun i t => wtN (N0 76) (N0 95) (N0 96) (N0 73) n m i t) m j x ≤ 2000 := fun j x hj => Nat.le_trans (gsN_le (fun i t => wtN_le hp) _ _) (by omega)
    have hpN : POJ m I N.1 := by
      obtain ⟨b1, b2, b3, b4⟩ := hp
      refine ⟨b1, b2, by rw [hF 72 (by omega)]; exact b3, by rw [hF 95 (by omega), hF 96 (by omega)]; exact b4⟩
    have e73 := hF 73 (by omega)
    have e76 := hF 76 (by omega)
    have e95 := hF 95 (by omega)
    have e96 := hF 96 (by omega)
    have hm6' : N.1 72 6 = nI n := by rw [hF 72 (by omega)]; exact hm6
    have stp : zX (t_X12_findsServed g) 16 [some (.ref 72), some (.int (nI (hereN (N0 73) n))), some (.int (nI i)), some (.int (nI s)), none, none] [] N = zX (t_X12_findsServed g) 16 [some (.ref 72), some (.int (nI (hereN (N0 73) n))), some (.int (nI i)), some (.int (nI (s + 1))), none, none] [] ((zu N.1 97 (1024 * i + s) (nI (gsN (fun i t => wtN (N0 76) (N0 95) (N0 96) (N0 73) n m i t) m (m - i) s))), N.2) := by
      rw [e_X12_findsServed_16, hm6', one_sh (by omega), cLtT (by omega) (by omega), bif_t, hpN.2.2.1, cEq_nI (by omega) (by omega)]
      by_cases e : i = m
      · subst e
        rw [decide_eq_true rfl, bif_t, e_X12_findsServed_57, hm6', hpN.2.2.1, cLtF (a := i) (b := i) (Nat.le_refl i) (by omega), bif_f, ixR1024, zbT (by omega) (by omega), bif_t, zx_nI (by omega), nI_s1, Nat.sub_self]
        cases cLt 0 (nI n) <;> rfl
      · have fs := fs_57 g (i := i) (s := s) (d := 0) hpN hn hm6' (by omega) (by omega) (by rw [e73, e76, e95, e96]; exact hT) n 0 (gsN (fun i t => wtN (N0 76) (N0 95) (N0 96) (N0 73) n m i t) m (m - (i + 1)) s) (by omega) (Nat.le_trans (hG _ _ (by omega)) (by omega))
        rw [e73, e76, e95, e96] at fs
        rw [decide_eq_false e, bif_f, nI_s1, ixR1024, zbT (by omega) (by omega), bif_t, zx_nI (by omega), hT (i + 1) (by omega) (by omega) s (by omega)]
        refine fs.trans ?_
        congr 3
        rw [show m - i = (m - (i + 1)) + 1 by omega]
        show _ = nI (msF (fun t => wtN (N0 76) (N0 95) (N0 96) (N0 73) n m (m - 1 - (m - (i + 1))) t) s (gsN (fun i t => wtN (N0 76) (N0 95) (N0 96) (N0 73) n m i t) m (m - (i + 1))) 10 0 (gsN (fun i t => wtN (N0 76) (N0 95) (N0 96) (N0 73) n m i t) m (m - (i + 1)) s))
        rw [show m - 1 - (m - (i + 1)) = i by omega]
        have mm := msF_more (wt := fun t => wtN (N0 76) (N0 95) (N0 96) (N0 73) n m i t) (s := s) (G := gsN (fun i t => wtN (N0 76) (N0 95) (N0 96) (N0 73) n m i t) m (m - (i + 1))) n (10 - n) 0 (gsN (fun i t => wtN (N0 76) (N0 95) (N0 96) (N0 73) n m i t) m (m - (i + 1)) s) (by
          intro k h1 h3
          show wtN (N0 76) (N0 95) (N0 96) (N0 73) n m i k = 0
          unfold wtN
          rw [if_neg (by omega)])
        rw [show n + (10 - n) = 10 by omega] at mm
        rw [mm]
    obtain ⟨J', q1, q2, q3⟩ := ih (s + 1) ((zu N.1 97 (1024 * i + s) (nI (gsN (fun i t => wtN (N0 76) (N0 95) (N0 96) (N0 73) n m i t) m (m - i) s))), N.2) (by omega) (fun a ha => (zu_ne ha).trans (hF a ha)) (by
      intro i' h1 h3 x hx'
      dsimp only
      rw [zu_ne2 (by omega)]
      exact hT i' h1 h3 x hx') (by
      intro x hx'
      dsimp only
      by_cases e : x = s
      · subst e; exact zu_eq
      · rw [zu_ne2 (by omega)]
        exact hx x (by omega))
    exact ⟨J', stp.trans q1, q2, q3⟩
theorem fs_10 (g : zg) {m n : Nat} {I N0 : zI} (hp : POJ m I N0) (hn : n ≤ 10) (hm6 : N0 72 6 = nI n) : ∀ (k : Nat) (N : zM), k ≤ m + 1 → FSame N0 N.1 → TR (fun i t => wtN (N0 76) (N0 95) (N0 96) (N0 73) n m i t) m n k (N.1 97) → ∃ J', zX (t_X12_findsServed g) 10 [some (.ref 72), some (.int (nI (hereN (N0 73) n))), some (.int (nI k + (-1))), none, none, none] [] N = some (none, (J', N.2)) ∧ FSame N0 J' ∧ TR (fun i t => wtN (N0 76) (N0 95) (N0 96) (N0 73) n m i t) m n 0 (J' 97) := by
  have hm := hp.1
  intro k
  induction k with
  | zero =>
    intro N _ hF hT
    refine ⟨N.1, ?_, hF, hT⟩
    rw [e_X12_findsServed_10, show cLt0 (nI 0 + (-1)) = true from by decide, bif_t]
  | succ k ih =>
    intro N hk hF hT
    obtain ⟨J1, q1, q2, q3⟩ := fs_16 g (i := k) hp hn hm6 (by omega) (2 ^ n) 0 N (by omega) hF hT (fun x hx => absurd hx (by omega))
    obtain ⟨J', p1, p2, p3⟩ := ih (J1, N.2) (by omega) q2 q3
    refine ⟨J', ?_, p2, p3⟩
    rw [e_X12_findsServed_10, nI_m1, cLt0_nI (by omega), bif_f]
    exact q1.trans p1
theorem finds_s (g : zg) {m n : Nat} {I : zI} {N : zM} (hp : POJ m I N.1) (hn : n ≤ 10) (hm6 : N.1 72 6 = nI n) : ∃ J', X_X12_findsServed g [.ref 72] N = some (none, (J', N.2)) ∧ FSame N.1 J' ∧ TR (fun i t => wtN (N.1 76) (N.1 95) (N.1 96) (N.1 73) n m i t) m n 0 (J' 97) := by
  obtain ⟨J', q1, q2, q3⟩ := fs_10 g hp hn hm6 (m + 1) N (Nat.le_refl _) (fun _ _ => rfl) (fun i' h1 h3 => absurd h1 (by omega))
  refine ⟨J', ?_, q2, q3⟩
  rw [x_X12_findsServed_0, here_s g hn hm6, zbI_s, hp.2.2.1]
  rw [nI_m1] at q1
  exact q1
theorem sv_61 (g : zg) {m n p s : Nat} {a1 : Int32} {I : zI} {N : zM} (hp : POJ m I N.1) (hn : n ≤ 10) (hm6 : N.1 72 6 = nI n) (hpm : p < m) (hs : s < 2 ^ n) (hT : TR (fun i t => wtN (N.1 76) (N.1 95) (N.1 96) (N.1 73) n m i t) m n 0 (N.1 97)) (f : Nat) : ∀ t, t + f = n → zX (t_X12_serves g) 61 [some (.ref 72), some (.int a1), some (.int (nI s)), some (.int (nI t)), some (.int (nI p))] [] N = (match fhF (fun t => wtN (N.1 76) (N.1 95) (N.1 96) (N.1 73) n m p t) s (gsN (fun i t => wtN (N.1 76) (N.1 95) (N.1 96) (N.1 73) n m i t) m (m - (p + 1))) (gsN (fun i t => wtN (N.1 76) (N.1 95) (N.1 96) (N.1 73) n m i t) m (m - p) s) f t with
    | none => zX (t_X12_serves g) 50 [some (.ref 72), some (.int a1), some (.int (nI s)), some (.int (nI n)), some (.int (nI (p + 1)))] [] N
    | some u => zX (t_X12_serves g) 50 [some (.ref 72), some (.int a1), some (.int (nI (s ||| 2 ^ u))), some (.int (nI u)), some (.int (nI (p + 1)))] [] N) := by
  have hm := hp.1
  have h2n : 2 ^ n ≤ 1024 := Nat.pow_le_pow_right (n := 2) (by omega) hn
  have hb := seF_set (p := fun t => cEq0 (N.1 73 (38 + t))) hn
  induction f with
  | zero =>
    intro t ht
    have : t = n := by omega
    subst this
    rw [e_X12_serves_61, hm6, cLtF (Nat.le_refl t) (by omega), bif_f, bif_f, nI_s1]
    rfl
  | succ f ih =>
    intro t ht
    have hd : dif (hereN (N.1 73) n) s < 1024 := dif_lt hb.2.1
    have hbit : bt10 (dif (hereN (N.1 73) n) s) t = (cEq0 (N.1 73 (38 + t)) && !bt10 s t) := by
      rw [dif_bt]
      unfold hereN
      rw [hb.2.2 t, decide_eq_true (show t < n by omega), Bool.true_and]
    have ih' := ih (t + 1) (by omega)
    have stp : fhF (fun t => wtN (N.1 76) (N.1 95) (N.1 96) (N.1 73) n m p t) s (gsN (fun i t => wtN (N.1 76) (N.1 95) (N.1 96) (N.1 73) n m i t) m (m - (p + 1))) (gsN (fun i t => wtN (N.1 76) (N.1 95) (N.1 96) (N.1 73) n m i t) m (m - p) s) (f + 1) t = (if 0 < wtN (N.1 76) (N.1 95) (N.1 96) (N.1 73) n m p t ∧ bt10 s t = false ∧ wtN (N.1 76) (N.1 95) (N.1 96) (N.1 73) n m p t + gsN (fun i t => wtN (N.1 76) (N.1 95) (N.1 96) (N.1 73) n m i t) m (m - (p + 1)) (s ||| 2 ^ t) = gsN (fun i t => wtN (N.1 76) (N.1 95) (N.1 96) (N.1 73) n m i t) m (m - p) s then some t else fhF (fun t => wtN (N.1 76) (N.1 95) (N.1 96) (N.1 73) n m p t) s (gsN (fun i t => wtN (N.1 76) (N.1 95) (N.1 96) (N.1 73) n m i t) m (m - (p + 1))) (gsN (fun i t => wtN (N.1 76) (N.1 95) (N.1 96) (N.1 73) n m i t) m (m - p) s) f (t + 1)) := rfl
    rw [stp, e_X12_serves_61, hm6, cLtT (by omega) (by omega), bif_t, here_s g hn hm6, zbI_s, dif_s, has_s g (by omega) (by omega), zbI_s, cEq0_b01, hbit, nI_s1, nI_s1]
    cases hE : cEq0 (N.1 73 (38 + t))
    · rw [Bool.false_and, Bool.not_false, bif_t, if_neg (fun x => by
        have := ((wtN_pos hp hpm).mp x.1).2
        rw [hE] at this
        cases this)]
      exact ih'
    · cases hB : bt10 s t
      · have hw := wtN_le (n := n) (i := p) (t := t) hp
        have hG : ∀ j x, j ≤ 6 → gsN (fun i t => wtN (N.1 76) (N.1 95) (N.1 96) (N.1 73) n m i t) m j x ≤ 2000 := fun j x hj => Nat.le_trans (gsN_le (fun i t => wtN_le hp) _ _) (by omega)
        have g1 := hG (m - (p + 1)) (s ||| 2 ^ t) (by omega)
        have g2 := hG (m - p) s (by omega)
        rw [Bool.not_false, Bool.and_true, Bool.not_true, bif_f, served_s g hp hn hpm (by omega) hE hs, zbI_s, hT (p + 1) (by omega) (by omega) (s ||| 2 ^ t) (or_ltn hs (by omega)), nI_ad2, ixR1024, zbT (by omega) (by omega), bif_t, zx_nI (by omega), hT p (by omega) (by omega) s hs, cEq_nI (by omega) (by omega), hm6, cLtT (by omega) (by omega), bif_t, one_sh (by omega), nI_or]
        by_cases hq : wtN (N.1 76) (N.1 95) (N.1 96) (N.1 73) n m p t + gsN (fun i t => wtN (N.1 76) (N.1 95) (N.1 96) (N.1 73) n m i t) m (m - (p + 1)) (s ||| 2 ^ t) = gsN (fun i t => wtN (N.1 76) (N.1 95) (N.1 96) (N.1 73) n m i t) m (m - p) s
        · rw [decide_eq_true hq, bif_t, if_pos ⟨(wtN_pos hp hpm).mpr ⟨by omega, hE⟩, rfl, hq⟩]
        · rw [decide_eq_false hq, bif_f, if_neg (fun x => hq x.2.2)]
          exact ih'
      · rw [Bool.not_true, Bool.and_false, Bool.not_false, bif_t, if_neg (fun x => by cases x.2.1)]
        exact ih'
theorem sv_50 (g : zg) {m n q : Nat} {I : zI} {N : zM} (hp : POJ m I N.1) (hn : n ≤ 10) (hm6 : N.1 72 6 = nI n) (hq : q < m) (hT : TR (fun i t => wtN (N.1 76) (N.1 95) (N.1 96) (N.1 73) n m i t) m n 0 (N.1 97)) (f : Nat) : ∀ (p s : Nat) (h : Option Nat), p + f = q + 1 → s < 2 ^ n → (∀ u, h = some u → u < n) → zX (t_X12_serves g) 50 [some (.ref 72), some (.int (nI (10 + q))), some (.int (nI s)), some (.int (nI (h.getD n))), some (.int (nI p))] [] N = some (some (.int (bI (hoF (fun i t => wtN (N.1 76) (N.1 95) (N.1 96) (N.1 73) n m i t) m f p s h))), N) := by
  have hm := hp.1
  induction f with
  | zero =>
    intro p s h hpf hs hh
    rw [e_X12_serves_50, show nI (10 + q) - 10 = nI q from by
      rw [show (10 : Int32) = nI 10 from rfl, nI_sub (by omega), Nat.add_sub_cancel_left], cGt_nI (by omega) (by omega), decide_eq_true (by omega), bif_t, hm6]
    show _ = some (some (Value.int (bI h)), N)
    cases h with
    | none =>
      show (bif cEq (nI n) (nI n) then some (some (Value.int (-1)), N) else _) = _
      rw [cEq_s rfl, bif_t]
      rfl
    | some u =>
      have hu := hh u rfl
      show (bif cEq (nI u) (nI n) then _ else some (some (Value.int (nI u)), N)) = _
      rw [cEq_nI (by omega) (by omega), decide_eq_false (by omega), bif_f]
      rfl
  | succ f ih =>
    intro p s h hpf hs hh
    have e61 := sv_61 g (p := p) (s := s) (a1 := nI (10 + q)) hp hn hm6 (by omega) hs hT n 0 (by omega)
    have mm := fhF_more (wt := fun t => wtN (N.1 76) (N.1 95) (N.1 96) (N.1 73) n m p t) (s := s) (b := gsN (fun i t => wtN (N.1 76) (N.1 95) (N.1 96) (N.1 73) n m i t) m (m - p) s) (G := gsN (fun i t => wtN (N.1 76) (N.1 95) (N.1 96) (N.1 73) n m i t) m (m - (p + 1))) n (10 - n) 0 (by
      intro k h1 h3
      show wtN (N.1 76) (N.1 95) (N.1 96) (N.1 73) n m p k = 0
      unfold wtN
      rw [if_neg (by omega)])
    rw [show n + (10 - n) = 10 by omega] at mm
    rw [← mm] at e61
    rw [e_X12_serves_50, show nI (10 + q) - 10 = nI q from by
      rw [show (10 : Int32) = nI 10 from rfl, nI_sub (by omega), Nat.add_sub_cancel_left], cGt_nI (by omega) (by omega), decide_eq_false (by omega), bif_f, show (some (Value.int 0)) = some (.int (nI 0)) from rfl, e61]
    have stp : hoF (fun i t => wtN (N.1 76) (N.1 95) (N.1 96) (N.1 73) n m i t) m (f + 1) p s h = hoF (fun i t => wtN (N.1 76) (N.1 95) (N.1 96) (N.1 73) n m i t) m f (p + 1) (match fhF (fun t => wtN (N.1 76) (N.1 95) (N.1 96) (N.1 73) n m p t) s (gsN (fun i t => wtN (N.1 76) (N.1 95) (N.1 96) (N.1 73) n m i t) m (m - (p + 1))) (gsN (fun i t => wtN (N.1 76) (N.1 95) (N.1 96) (N.1 73) n m i t) m (m - p) s) 10 0 with
      | none => s
      | some t => s ||| 2 ^ t) (fhF (fun t => wtN (N.1 76) (N.1 95) (N.1 96) (N.1 73) n m p t) s (gsN (fun i t => wtN (N.1 76) (N.1 95) (N.1 96) (N.1 73) n m i t) m (m - (p + 1))) (gsN (fun i t => wtN (N.1 76) (N.1 95) (N.1 96) (N.1 73) n m i t) m (m - p) s) 10 0) := rfl
    rw [stp]
    have hfb := fhF_b (wt := fun t => wtN (N.1 76) (N.1 95) (N.1 96) (N.1 73) n m p t) (s := s) (G := gsN (fun i t => wtN (N.1 76) (N.1 95) (N.1 96) (N.1 73) n m i t) m (m - (p + 1))) (b := gsN (fun i t => wtN (N.1 76) (N.1 95) (N.1 96) (N.1 73) n m i t) m (m - p) s) 10 0
    generalize fhF (fun t => wtN (N.1 76) (N.1 95) (N.1 96) (N.1 73) n m p t) s (gsN (fun i t => wtN (N.1 76) (N.1 95) (N.1 96) (N.1 73) n m i t) m (m - (p + 1))) (gsN (fun i t => wtN (N.1 76) (N.1 95) (N.1 96) (N.1 73) n m i t) m (m - p) s) 10 0 = fo at hfb ⊢
    cases fo with
    | none => exact ih (p + 1) s none (by omega) hs (fun u e => by cases e)
    | some u =>
      obtain ⟨b1, b2, b3⟩ := hfb u rfl
      have hun : u < n := ((wtN_pos hp (by omega)).mp b3).1
      exact ih (p + 1) (s ||| 2 ^ u) (some u) (by omega) (or_ltn hs hun) (fun v e => by cases e; exact hun)
/-- the answer of serves -/
def srvA (wt : Nat → Nat → Nat) (m : Nat) (a : Int32) : Int32 := bif cEq0 a then nI (gsN wt m m 0) else bif inb a 10 (9 + nI m) then bI (hoF wt m (zx a - 10 + 1) 0 0 none) else -1
theorem inb10_ex {a : Int32} {m : Nat} (hm : m ≤ 6) (h : inb a 10 (9 + nI m) = true) : ∃ q, q < m ∧ a = nI (10 + q) := by
  rw [show (9 : Int32) + nI m = nI (9 + m) from nI_ad2 9 m] at h
  have h0 : inb a 0 (nI (9 + m)) = true := by
    unfold inb cLt cGt at h ⊢
    simp only [Bool.and_eq_true, Bool.not_eq_true', decide_eq_false_iff_not, Int32.lt_iff_toInt_lt] at h ⊢
    have e0 : (0 : Int32).toInt = 0 := by decide
    have e1 : (10 : Int32).toInt = 10 := by decide
    exact ⟨by omega, h.2⟩
  obtain ⟨k, hk, rfl⟩ := inb_ex (by omega) h0
  rw [show (10 : Int32) = nI 10 from rfl, inb_nI (by omega) (by omega) (by omega)] at h
  simp at h
  exact ⟨k - 10, by omega, by rw [Nat.add_sub_cancel' h.1]⟩
theorem servesM_s (g : zg) (a : Int32) {m n : Nat} {I : zI} {N : zM} (hp : POJ m I N.1) (hn : n ≤ 10) (hm6 : N.1 72 6 = nI n) : ∃ J', X_X12_serves g [.ref 72, .int a] N = some (some (.int (srvA (fun i t => wtN (N.1 76) (N.1 95) (N.1 96) (N.1 73) n m i t) m a)), (J', N.2)) ∧ FSame (zu N.1 72 0 0) J' := by
  have hm := hp.1
  have hpT : POJ m I (zu N.1 72 0 0) := by
    obtain ⟨b1, b2, b3, b4⟩ := hp
    exact ⟨b1, b2, by rw [zu_ne2 (by omega)]; exact b3, by rw [zu_ne (by omega), zu_ne (by omega)]; exact b4⟩
  obtain ⟨J', q1, q2, q3⟩ := finds_s g (N := ((zu N.1 72 0 0), N.2)) hpT hn (by dsimp only; rw [zu_ne2 (by omega)]; exact hm6)
  dsimp only at q3
  rw [zu_ne (show 76 ≠ 72 by omega), zu_ne (show 95 ≠ 72 by omega), zu_ne (show 96 ≠ 72 by omega), zu_ne (show 73 ≠ 72 by omega)] at q3
  unfold srvA
  rw [x_X12_serves_0, q1, zbV_s, hp.2.2.1]
  cases ha : cEq0 a
  · rw [bif_f, bif_f, isIn_s, zbI_s, cEq0_b01]
    cases hi : inb a 10 (9 + nI m)
    · exact ⟨_, rfl, fun _ _ => rfl⟩
    · obtain ⟨q, hq, rfl⟩ := inb10_ex hm hi
      refine ⟨J', ?_, q2⟩
      rw [Bool.not_true, bif_f, q1, zbV_s, bif_f, zx_nI (by omega), bif_t, Nat.add_sub_cancel_left]
      have hpJ : POJ m I J' := by
        obtain ⟨b1, b2, b3, b4⟩ := hpT
        exact ⟨b1, b2, by rw [q2 72 (by omega)]; exact b3, by rw [q2 95 (by omega), q2 96 (by omega)]; exact b4⟩
      have ee : J' 76 = N.1 76 ∧ J' 95 = N.1 95 ∧ J' 96 = N.1 96 ∧ J' 73 = N.1 73 := ⟨(q2 76 (by omega)).trans (by dsimp only; rw [zu_ne (by omega)]), (q2 95 (by omega)).trans (by dsimp only; rw [zu_ne (by omega)]), (q2 96 (by omega)).trans (by dsimp only; rw [zu_ne (by omega)]), (q2 73 (by omega)).trans (by dsimp only; rw [zu_ne (by omega)])⟩
      have e50 := sv_50 g (N := (J', N.2)) (q := q) hpJ hn (by dsimp only; rw [q2 72 (by omega)]; dsimp only; rw [zu_ne2 (by omega)]; exact hm6) hq (by dsimp only; rw [ee.1, ee.2.1, ee.2.2.1, ee.2.2.2]; exact q3) (q + 1) 0 0 none (by omega) (Nat.pow_pos (by omega)) (fun u e => by cases e)
      dsimp only at e50
      rw [ee.1, ee.2.1, ee.2.2.1, ee.2.2.2] at e50
      refine Eq.trans ?_ e50
      rw [e_X12_serves_50, e_X12_serves_50, show nI (10 + q) - 10 = nI q from by
        rw [show (10 : Int32) = nI 10 from rfl, nI_sub (by omega), Nat.add_sub_cancel_left], show cGt (0 : Int32) (nI q) = false from (cGt_nI (a := 0) (b := q) (by omega) (by omega)).trans (decide_eq_false (by omega)), bif_f, show cGt (nI 0) (nI q) = false from (cGt_nI (a := 0) (b := q) (by omega) (by omega)).trans (decide_eq_false (by omega)), bif_f]
      rfl
  · refine ⟨J', ?_, q2⟩
    rw [bif_t, bif_t, bif_t]
    have := q3 0 (by omega) (by omega) 0 (Nat.pow_pos (by omega))
    rw [Nat.mul_zero, Nat.zero_add, Nat.sub_zero] at this
    dsimp only
    rw [this]
