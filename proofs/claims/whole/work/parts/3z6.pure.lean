/-! PURE ROWS: likely, the class -/
theorem cntF_cg {p q : Nat → Bool} (h : ∀ i, p i = q i) (f i : Nat) : cntF p f i = cntF q f i := by rw [show p = q from funext h]
theorem cd_34 (g : zg) {r t : Nat} {sd : Int32} {cd ca : Nat → Nat} {rn c28 c29 : Nat → Int32} (hr : r < 2147483648) (ht : t < 10) (hm : MR c28 c29 r cd ca rn) (f : Nat) : ∀ (i : Nat) (A B : Nat → Nat) (M : zM), i + f = min r 90 → M.1 7 12 = nI r → M.1 28 = c28 → M.1 29 = c29 → (∀ k, k < 5 → M.1 30 k = nI (A k) ∧ M.1 31 k = nI (B k)) → ∃ I', zX (t_X5_countDays g) 34 [some (.ref 27), some (.ref 7), some (.int (nI t)), some (.int sd), some (.int (nI i)), none, none, none] [] M = some (none, (I', M.2)) ∧ (∀ a, a ≠ 30 → a ≠ 31 → I' a = M.1 a) ∧ ∀ k, k < 5 → I' 30 k = nI (A k + cntF (pcC c28 c29 r t k) f i) ∧ I' 31 k = nI (B k + cntF (psC c28 c29 r t k sd) f i) := by
  induction f with
  | zero =>
    intro i A B M hi h12 h28 h29 hAB
    refine ⟨M.1, ?_, fun _ _ _ => rfl, hAB⟩
    rw [e_X5_countDays_34, kept_s g hr h12, zbI_s, cLtF (by omega) (by omega), bif_f]
  | succ f ih =>
    intro i A B M hi h12 h28 h29 hAB
    have hs : (r - 1 - i) % 96 < 96 := Nat.mod_lt _ (by omega)
    have h0 := hm.2 (min r 90 - 1 - i) (by omega)
    have hcm := h0.2.2.2.1
    rw [show r - min r 90 + (min r 90 - 1 - i) = r - 1 - i by omega] at hcm
    have hca := h0.1
    generalize hkd : ca (min r 90 - 1 - i) = kd at hcm hca
    rw [e_X5_countDays_34, kept_s g hr h12, zbI_s, cLtT (by omega) (by omega), bif_t, slotOf_s g hr h12 (by omega), zbI_s, saidIn_s g hs ht, zbI_s, zbT hs (by omega), bif_t, zx_nI (by omega), h29, h28, hcm, nI_s1]
    have pcK : ∀ k, pcC c28 c29 r t k i = (decide (kd = k) && !cEq (c29 (10 * ((r - 1 - i) % 96) + t)) (-1)) ∨ 5 ≤ k := by
      intro k
      by_cases hk : k < 5
      · left
        unfold pcC
        rw [hcm, cEq_nI (by omega) (by omega)]
      · right; omega
    cases h1 : cEq (c29 (10 * ((r - 1 - i) % 96) + t)) (-1)
    · have hin : inb (nI kd) 0 4 = true := (inb_nI (k := kd) (a := 0) (b := 4) (by omega) (by omega) (by omega)).trans (by simp; omega)
      rw [bif_f, within_s, zbI_s, hin, cEq0_b01, Bool.not_true, bif_f, zbT (by omega) (by omega), bif_t, bif_t, bif_t, bif_t, bif_t, zx_nI (by omega), (hAB kd (by omega)).1, (hAB kd (by omega)).2, nI_s1]
      have go : ∀ (bb : Bool), cEq (c29 (10 * ((r - 1 - i) % 96) + t)) sd = bb → ∀ z : Int32, z = nI (B kd + if bb = true then 1 else 0) → ∃ I', zX (t_X5_countDays g) 34 [some (.ref 27), some (.ref 7), some (.int (nI t)), some (.int sd), some (.int (nI (i + 1))), none, none, none] [] ((zu (zu M.1 30 kd (nI (A kd + 1))) 31 kd z), M.2) = some (none, (I', M.2)) ∧ (∀ a, a ≠ 30 → a ≠ 31 → I' a = M.1 a) ∧ ∀ k, k < 5 → I' 30 k = nI (A k + cntF (pcC c28 c29 r t k) (f + 1) i) ∧ I' 31 k = nI (B k + cntF (psC c28 c29 r t k sd) (f + 1) i) := by
        intro bb hbb z hz
        obtain ⟨I', q1, q2, q3⟩ := ih (i + 1) (fun k => A k + if k = kd then 1 else 0) (fun k => B k + if k = kd then (if bb = true then 1 else 0) else 0) ((zu (zu M.1 30 kd (nI (A kd + 1))) 31 kd z), M.2) (by omega) (by dsimp only; rw [zu_ne (by omega), zu_ne (by omega)]; exact h12) (by dsimp only; rw [zu_ne (by omega), zu_ne (by omega)]; exact h28) (by dsimp only; rw [zu_ne (by omega), zu_ne (by omega)]; exact h29) (by
          intro k hk
          dsimp only
          by_cases e : k = kd
          · subst e
            rw [zu_ne (show 30 ≠ 31 by omega), zu_eq, zu_eq, if_pos rfl, if_pos rfl]
            exact ⟨rfl, hz⟩
          · rw [zu_ne (show 30 ≠ 31 by omega), zu_ne2 e, zu_ne2 e, if_neg e, if_neg e, zu_ne (show 31 ≠ 30 by omega)]
            exact hAB k hk)
        refine ⟨I', q1, ?_, ?_⟩
        · intro a u1 u2
          rw [q2 a u1 u2]
          dsimp only
          rw [zu_ne u2, zu_ne u1]
        · intro k hk
          obtain ⟨w1, w2⟩ := q3 k hk
          rw [w1, w2, cntF_s, cntF_s]
          have hp : pcC c28 c29 r t k i = decide (kd = k) := by
            rcases pcK k with e | e
            · rw [e, h1]; simp
            · omega
          have hps : psC c28 c29 r t k sd i = (decide (kd = k) && bb) := by
            unfold psC
            rw [hp, hbb]
          rw [hp, hps]
          by_cases e : k = kd
          · subst e
            cases bb <;> simp [Nat.add_assoc]
          · have e' : ¬ kd = k := fun h => e h.symm
            simp [e, e']
      cases h2 : cEq (c29 (10 * ((r - 1 - i) % 96) + t)) sd
      · rw [bif_f]
        exact go false h2 _ (by rw [Int32.add_zero]; rfl)
      · rw [bif_t]
        exact go true h2 _ (nI_s1 _)
    · rw [bif_t]
      obtain ⟨I', q1, q2, q3⟩ := ih (i + 1) A B M (by omega) h12 h28 h29 hAB
      refine ⟨I', q1, q2, ?_⟩
      intro k hk
      obtain ⟨w1, w2⟩ := q3 k hk
      have hp : pcC c28 c29 r t k i = false := by
        rcases pcK k with e | e
        · rw [e, h1]; simp
        · omega
      have hps : psC c28 c29 r t k sd i = false := by
        unfold psC
        rw [hp]
        rfl
      rw [w1, w2, cntF_s, cntF_s, hp, hps]
      simp
theorem cd_3 (g : zg) {t sd : Int32} (f : Nat) : ∀ (k : Nat) (M : zM), k + f = 5 → ∃ I', zX (t_X5_countDays g) 3 [some (.ref 27), some (.ref 7), some (.int t), some (.int sd), some (.int (nI k)), none, none, none] [] M = zX (t_X5_countDays g) 34 [some (.ref 27), some (.ref 7), some (.int t), some (.int sd), some (.int 0), none, none, none] [] (I', M.2) ∧ (∀ a, a ≠ 30 → a ≠ 31 → I' a = M.1 a) ∧ (∀ j, k ≤ j → j < 5 → I' 30 j = 0 ∧ I' 31 j = 0) ∧ ∀ j, j < k → I' 30 j = M.1 30 j ∧ I' 31 j = M.1 31 j := by
  induction f with
  | zero =>
    intro k M hk
    refine ⟨M.1, ?_, fun _ _ _ => rfl, fun j h1 h2 => absurd h1 (by omega), fun _ _ => ⟨rfl, rfl⟩⟩
    rw [e_X5_countDays_3, cLtLF (N := 5) (by omega) (by omega), bif_f]
  | succ f ih =>
    intro k M hk
    obtain ⟨I', q1, q2, q3, q4⟩ := ih (k + 1) ((zu (zu M.1 30 k 0) 31 k 0), M.2) (by omega)
    refine ⟨I', ?_, ?_, ?_, ?_⟩
    · rw [e_X5_countDays_3, cLtLT (N := 5) (by omega) (by omega), bif_t, zbT (by omega) (by omega), bif_t, bif_t, zx_nI (by omega), nI_s1]
      exact q1
    · intro a u1 u2
      rw [q2 a u1 u2]
      dsimp only
      rw [zu_ne u2, zu_ne u1]
    · intro j h1 h2
      by_cases e : j = k
      · subst e
        obtain ⟨w1, w2⟩ := q4 j (by omega)
        rw [w1, w2]
        dsimp only
        rw [zu_ne (show 30 ≠ 31 by omega), zu_eq, zu_eq]
        exact ⟨rfl, rfl⟩
      · exact q3 j (by omega) h2
    · intro j hj
      obtain ⟨w1, w2⟩ := q4 j (by omega)
      rw [w1, w2]
      dsimp only
      rw [zu_ne (show 30 ≠ 31 by omega), zu_ne2 (by omega), zu_ne2 (by omega), zu_ne (show 31 ≠ 30 by omega)]
      exact ⟨rfl, rfl⟩
theorem pcC_M {cm sd' rn : Nat → Int32} {r t k : Nat} {cd ca : Nat → Nat} (h : MR cm sd' r cd ca rn) (ht : t < 10) (sd : Int32) : cntF (pcC cm sd' r t k) (min r 90) 0 = cmN cd ca r t k ∧ cntF (psC cm sd' r t k sd) (min r 90) 0 = cntF (psM cd ca t k sd) (min r 90) 0 := by
  have key : ∀ i, i < min r 90 → pcC cm sd' r t k i = pcM cd ca t k (min r 90 - 1 - i) ∧ psC cm sd' r t k sd i = psM cd ca t k sd (min r 90 - 1 - i) := by
    intro i hi
    have h0 := h.2 (min r 90 - 1 - i) (by omega)
    have hd := h0.2.2.2.2 t ht
    have hm := h0.2.2.2.1
    rw [show r - min r 90 + (min r 90 - 1 - i) = r - 1 - i by omega] at hd hm
    unfold psC psM pcC pcM
    rw [hd, hm]
    exact ⟨rfl, rfl⟩
  constructor
  · unfold cmN
    exact cntF_rev (min r 90) 0 0 (fun i hi => by rw [Nat.zero_add, Nat.zero_add]; exact (key i hi).1)
  · exact cntF_rev (min r 90) 0 0 (fun i hi => by rw [Nat.zero_add, Nat.zero_add]; exact (key i hi).2)
theorem countDays_s (g : zg) {r t : Nat} {sd : Int32} {cd ca : Nat → Nat} {rn : Nat → Int32} {M : zM} (hr : r < 2147483648) (ht : t < 10) (hm : MR (M.1 28) (M.1 29) r cd ca rn) (h12 : M.1 7 12 = nI r) : ∃ I', X_X5_countDays g [.ref 27, .ref 7, .int (nI t), .int sd] M = some (none, (I', M.2)) ∧ (∀ a, a ≠ 30 → a ≠ 31 → I' a = M.1 a) ∧ ∀ k, k < 5 → I' 30 k = nI (cmN cd ca r t k) ∧ I' 31 k = nI (cntF (psM cd ca t k sd) (min r 90) 0) := by
  obtain ⟨I1, q1, q2, q3, _⟩ := cd_3 g (t := nI t) (sd := sd) 5 0 M (by omega)
  obtain ⟨I', p1, p2, p3⟩ := cd_34 g (sd := sd) hr ht hm (min r 90) 0 (fun _ => 0) (fun _ => 0) (I1, M.2) (by omega) (by dsimp only; rw [q2 7 (by omega) (by omega)]; exact h12) (q2 28 (by omega) (by omega)) (q2 29 (by omega) (by omega)) (fun k hk => q3 k (by omega) hk)
  refine ⟨I', ?_, fun a u1 u2 => (p2 a u1 u2).trans (q2 a u1 u2), ?_⟩
  · rw [x_X5_countDays_0]
    exact q1.trans p1
  · intro k hk
    obtain ⟨w1, w2⟩ := p3 k hk
    obtain ⟨e1, e2⟩ := pcC_M (k := k) hm ht sd
    rw [w1, w2, Nat.zero_add, Nat.zero_add, e1, e2]
    exact ⟨rfl, rfl⟩
theorem wk_85 (g : zg) {a1 a2 : Int32} {A B q : Nat → Nat} (hA : ∀ k, k < 5 → A k ≤ 90 ∧ B k ≤ 90 ∧ q k ≤ 200000) (f : Nat) : ∀ (k : Nat) (M : zM), k + f = 5 → (∀ j, j < 5 → M.1 30 j = nI (A j) ∧ M.1 31 j = nI (B j)) → (∀ j, k ≤ j → j < 5 → M.2 39 j = lN (q j)) → ∃ L', zX (t_X10_weighKinds g) 85 [some (.ref 6), some (.int a1), some (.int a2), none, some (.int (nI k))] [] M = zX (t_X10_weighKinds g) 26 [some (.ref 6), some (.int a1), some (.int (a2 + 1)), none, none] [] (M.1, L') ∧ (∀ a, a ≠ 39 → L' a = M.2 a) ∧ (∀ j, k ≤ j → j < 5 → L' 39 j = lN (q j * (1 + B j) / (5 + A j))) ∧ ∀ j, j < k → L' 39 j = M.2 39 j := by
  induction f with
  | zero =>
    intro k M hk hAB hq
    refine ⟨M.2, ?_, fun _ _ => rfl, fun j h1 h2 => absurd h1 (by omega), fun _ _ => rfl⟩
    rw [e_X10_weighKinds_85, cLtLF (N := 5) (by omega) (by omega), bif_f]
  | succ f ih =>
    intro k M hk hAB hq
    obtain ⟨b1, b2, b3⟩ := hA k (by omega)
    obtain ⟨c1, c2⟩ := hAB k (by omega)
    have hmul : q k * (1 + B k) ≤ 200000 * 91 := Nat.mul_le_mul b3 (by omega)
    obtain ⟨L', u1, u2, u3, u4⟩ := ih (k + 1) (M.1, zuL M.2 39 k (lN (q k * (1 + B k) / (5 + A k)))) (by omega) hAB (by
      intro j h1 h2
      dsimp only
      unfold zuL
      rw [if_pos rfl, if_neg (by omega)]
      exact hq j (by omega) h2)
    refine ⟨L', ?_, ?_, ?_, ?_⟩
    · rw [e_X10_weighKinds_85, cLtLT (N := 5) (by omega) (by omega), bif_t, zbT (by omega) (by omega), bif_t, bif_t, bif_t, bif_t, zx_nI (by omega), c1, c2, show (5 : Int32) + nI (A k) = nI (5 + A k) from nI_ad2 5 _, show (1 : Int32) + nI (B k) = nI (1 + B k) from nI_ad2 1 _, nI_l (by omega), nI_l (by omega), hq k (by omega) (by omega), lN_mul, lN_div (by omega) (by omega) (by omega), decide_eq_false (by
        intro e
        have := (lN_eq (a := 5 + A k) (b := 0) (by omega) (by omega)).mp e
        omega), Bool.not_false, bif_t, nI_s1]
      exact u1
    · intro a ha
      rw [u2 a ha]
      dsimp only
      unfold zuL
      rw [if_neg ha]
    · intro j h1 h2
      by_cases e : j = k
      · subst e
        rw [u4 j (by omega)]
        dsimp only
        unfold zuL
        rw [if_pos rfl, if_pos rfl]
      · exact u3 j (by omega) h2
    · intro j hj
      rw [u4 j (by omega)]
      dsimp only
      unfold zuL
      rw [if_pos rfl, if_neg (by omega)]
theorem wk_26 (g : zg) {n d r : Nat} {cd ca : Nat → Nat} {J : zI} (hr : r < 2147483648) (f : Nat) : ∀ (t : Nat) (an : Bool) (q : Nat → Nat) (M : zM), t + f = n → CRJ n 7 8 M.1 J → MR (M.1 28) (M.1 29) r cd ca (J 73) → M.1 7 12 = nI r → (∀ k, k < 5 → q k ≤ 200000 ∧ M.2 39 k = lN (q k)) → ∃ I' L', zX (t_X10_weighKinds g) 26 [some (.ref 6), some (.int (b01 an)), some (.int (nI t)), none, none] [] M = some (some (.int (b01 (an || anF (J 73) f t))), (I', L')) ∧ (∀ a, a ≠ 30 → a ≠ 31 → I' a = M.1 a) ∧ (∀ a, a ≠ 39 → L' a = M.2 a) ∧ ∀ k, k < 5 → L' 39 k = lN (odF cd ca (J 73) r k f t (q k)) := by
  have h7 : CO 7 8 := Or.inl ⟨rfl, rfl⟩
  induction f with
  | zero =>
    intro t an q M ht hc hm h12 hq
    obtain ⟨hn, hc2, _⟩ := CR_f hc
    refine ⟨M.1, M.2, ?_, fun _ _ _ => rfl, fun _ _ => rfl, fun k hk => (hq k hk).2⟩
    rw [e_X10_weighKinds_26, hc2, cLtF (by omega) (by omega), bif_f, b01_and1, bif_t]
    show _ = some (some (Value.int (b01 (an || false))), M)
    rw [Bool.or_false]
  | succ f ih =>
    intro t an q M ht hc hm h12 hq
    obtain ⟨hn, hc2, _⟩ := CR_f hc
    rw [e_X10_weighKinds_26, hc2, cLtT (by omega) (by omega), bif_t, getX g h7 (k := 6) (kk := 6) hn hc2 (by omega) (by omega) rfl rfl, zbI_s, servX g h7 hn hc2 (by omega), zbI_s, CR_gone hc (by omega), CR_sd hc (by omega), cEq0_b01, nI_s1]
    have sk : tAct (J 73) t = false → ∃ I' L', zX (t_X10_weighKinds g) 26 [some (.ref 6), some (.int (b01 an)), some (.int (nI (t + 1))), none, none] [] M = some (some (.int (b01 (an || anF (J 73) (f + 1) t))), (I', L')) ∧ (∀ a, a ≠ 30 → a ≠ 31 → I' a = M.1 a) ∧ (∀ a, a ≠ 39 → L' a = M.2 a) ∧ ∀ k, k < 5 → L' 39 k = lN (odF cd ca (J 73) r k (f + 1) t (q k)) := by
      intro ht0
      obtain ⟨I', L', u1, u2, u3, u4⟩ := ih (t + 1) an q M (by omega) hc hm h12 hq
      refine ⟨I', L', ?_, u2, u3, ?_⟩
      · rw [u1]
        show _ = some (some (Value.int (b01 (an || (tAct (J 73) t || anF (J 73) f (t + 1))))), _)
        rw [ht0, Bool.false_or]
      · intro k hk
        rw [u4 k hk]
        show _ = lN (odF cd ca (J 73) r k f (t + 1) (if tAct (J 73) t = true then _ else q k))
        rw [ht0, if_neg (by decide)]
    cases hA : cEq0 (J 73 (38 + t))
    · rw [Bool.not_false, bif_t]
      exact sk (by unfold tAct; rw [hA]; rfl)
    · rw [Bool.not_true, bif_f]
      cases hB : cEq (J 73 (48 + t) - 1) (-1)
      · rw [bif_f]
        obtain ⟨I1, p1, p2, p3⟩ := countDays_s g (sd := J 73 (48 + t) - 1) hr (show t < 10 by omega) hm h12
        rw [p1, zbV_s]
        have hb : ∀ k, k < 5 → cmN cd ca r t k ≤ 90 ∧ soN cd ca (J 73) r t k ≤ 90 ∧ q k ≤ 200000 := fun k hk => ⟨Nat.le_trans (cntF_le _ _ _) (by omega), Nat.le_trans (cntF_le _ _ _) (by omega), (hq k hk).1⟩
        obtain ⟨L1, w1, w2, w3, _⟩ := wk_85 g (a1 := 1) (a2 := nI t) hb 5 0 (I1, M.2) (by omega) p3 (fun j _ hj => (hq j hj).2)
        rw [show zX (t_X10_weighKinds g) 85 [some (.ref 6), some (.int 1), some (.int (nI t)), none, some (.int 0)] [] (I1, M.2) = _ from w1, nI_s1]
        obtain ⟨I', L', u1, u2, u3, u4⟩ := ih (t + 1) true (fun k => q k * (1 + soN cd ca (J 73) r t k) / (5 + cmN cd ca r t k)) (I1, L1) (by omega) (by
          unfold CRJ
          dsimp only
          rw [p2 7 (by omega) (by omega), p2 8 (by omega) (by omega)]
          exact hc) (by dsimp only; rw [p2 28 (by omega) (by omega), p2 29 (by omega) (by omega)]; exact hm) (by dsimp only; rw [p2 7 (by omega) (by omega)]; exact h12) (by
          intro k hk
          refine ⟨?_, w3 k (by omega) hk⟩
          have hsc := so_cm (cd := cd) (ca := ca) (rn := J 73) (r := r) (t := t) (k := k)
          refine Nat.le_trans (Nat.div_le_of_le_mul (n := q k) ?_) (hq k hk).1
          rw [Nat.mul_comm]
          exact Nat.mul_le_mul_right (q k) (by omega))
        have hact : tAct (J 73) t = true := by unfold tAct; rw [hA, hB]; rfl
        refine ⟨I', L', ?_, fun a b1 b2 => (u2 a b1 b2).trans (p2 a b1 b2), fun a b1 => (u3 a b1).trans (w2 a b1), ?_⟩
        · rw [show (some (Value.int 1)) = some (.int (b01 true)) from rfl, u1]
          show _ = some (some (Value.int (b01 (an || (tAct (J 73) t || anF (J 73) f (t + 1))))), _)
          rw [hact, Bool.true_or, Bool.or_true]
        · intro k hk
          rw [u4 k hk]
          show _ = lN (odF cd ca (J 73) r k f (t + 1) (if tAct (J 73) t = true then _ else q k))
          rw [hact, if_pos rfl]
      · rw [bif_t]
        exact sk (by unfold tAct; rw [hA, hB]; rfl)
theorem wk_4 (g : zg) {a1 : Int32} (f : Nat) : ∀ (k : Nat) (M : zM), k + f = 5 → ∃ L', zX (t_X10_weighKinds g) 4 [some (.ref 6), some (.int a1), some (.int (nI k)), none, none] [] M = zX (t_X10_weighKinds g) 26 [some (.ref 6), some (.int a1), some (.int 0), none, none] [] (M.1, L') ∧ (∀ a, a ≠ 39 → L' a = M.2 a) ∧ (∀ j, k ≤ j → j < 5 → L' 39 j = lN 200000) ∧ ∀ j, j < k → L' 39 j = M.2 39 j := by
  induction f with
  | zero =>
    intro k M hk
    refine ⟨M.2, ?_, fun _ _ => rfl, fun j h1 h2 => absurd h1 (by omega), fun _ _ => rfl⟩
    rw [e_X10_weighKinds_4, cLtLF (N := 5) (by omega) (by omega), bif_f]
  | succ f ih =>
    intro k M hk
    obtain ⟨L', u1, u2, u3, u4⟩ := ih (k + 1) (M.1, zuL M.2 39 k 200000) (by omega)
    refine ⟨L', ?_, ?_, ?_, ?_⟩
    · rw [e_X10_weighKinds_4, cLtLT (N := 5) (by omega) (by omega), bif_t, zbT (by omega) (by omega), bif_t, zx_nI (by omega), nI_s1]
      exact u1
    · intro a ha
      rw [u2 a ha]
      dsimp only
      unfold zuL
      rw [if_neg ha]
    · intro j h1 h2
      by_cases e : j = k
      · subst e
        rw [u4 j (by omega)]
        dsimp only
        unfold zuL
        rw [if_pos rfl, if_pos rfl]
        rfl
      · exact u3 j (by omega) h2
    · intro j hj
      rw [u4 j (by omega)]
      dsimp only
      unfold zuL
      rw [if_pos rfl, if_neg (by omega)]
theorem hv_4 (g : zg) {q : Nat → Nat} {M : zM} (hq : ∀ k, k < 5 → q k ≤ 200000 ∧ M.2 39 k = lN (q k)) (f : Nat) : ∀ k b, k + f = 5 → b < 5 → zX (t_X10_heaviestKind g) 4 [some (.ref 6), some (.int (nI b)), some (.int (nI k))] [] M = some (some (.int (nI (beF q f k b))), M) := by
  induction f with
  | zero =>
    intro k b hk hb
    rw [e_X10_heaviestKind_4, cLtLF (N := 5) (by omega) (by omega), bif_f]
    rfl
  | succ f ih =>
    intro k b hk hb
    obtain ⟨o1, o2⟩ := hq k (by omega)
    obtain ⟨o3, o4⟩ := hq b hb
    rw [e_X10_heaviestKind_4, cLtLT (N := 5) (by omega) (by omega), bif_t, zbT (by omega) (by omega), bif_t, zbT (by omega) (by omega), bif_t, zx_nI (by omega), zx_nI (by omega), o2, o4, lN_cmp (by omega) (by omega), nI_s1]
    show _ = some (some (Value.int (nI (beF q f (k + 1) (if q b < q k then k else b)))), M)
    by_cases h : q b < q k
    · rw [decide_eq_true h, bif_t, if_pos h, ih (k + 1) k (by omega) (by omega)]
    · rw [decide_eq_false h, bif_f, if_neg h, ih (k + 1) b (by omega) hb]
theorem sm_5 (g : zg) {q : Nat → Nat} {a1 : Int32} {M : zM} (hq : ∀ k, k < 5 → q k ≤ 200000 ∧ M.2 39 k = lN (q k)) (f : Nat) : ∀ k su, k + f = 5 → zX (t_X10_shareOfMillion g) 5 [some (.ref 6), some (.int a1), some (.long (lN su)), none, some (.int (nI k))] [] M = zX (t_X10_shareOfMillion g) 5 [some (.ref 6), some (.int a1), some (.long (lN (su + suF q f k))), none, some (.int (nI 5))] [] M := by
  induction f with
  | zero =>
    intro k su hk
    rw [show k = 5 by omega]
    rfl
  | succ f ih =>
    intro k su hk
    obtain ⟨o1, o2⟩ := hq k (by omega)
    rw [e_X10_shareOfMillion_5, cLtLT (N := 5) (by omega) (by omega), bif_t, zbT (by omega) (by omega), bif_t, zx_nI (by omega), o2, lN_add, nI_s1, ih (k + 1) (su + q k) (by omega), Nat.add_assoc]
    rfl
theorem likelyC_s (g : zg) (a : Int32) {n r : Nat} {cd ca : Nat → Nat} {J : zI} {M : zM} (hr : r < 2147483648) (hc : CRJ n 7 8 M.1 J) (hm : MR (M.1 28) (M.1 29) r cd ca (J 73)) (h12 : M.1 7 12 = nI r) : ∃ I' L', X_X11_likely g [.ref 0, .int a] M = some (some (.int (lkyA (fun k => odF cd ca (J 73) r k n 0 200000) (anF (J 73) n 0) a)), (I', L')) ∧ (∀ a, a ≠ 30 → a ≠ 31 → I' a = M.1 a) ∧ ∀ a, a ≠ 39 → L' a = M.2 a := by
  unfold lkyA
  rw [x_X11_likely_0, within_s, zbI_s, cEq0_b01]
  cases hi : inb a (-1) 4
  · exact ⟨M.1, M.2, rfl, fun _ _ _ => rfl, fun _ _ => rfl⟩
  · obtain ⟨L1, u1, u2, u3, _⟩ := wk_4 g (a1 := 0) 5 0 M (by omega)
    obtain ⟨I', L', w1, w2, w3, w4⟩ := wk_26 g (d := 0) hr n 0 false (fun _ => 200000) (M.1, L1) (by omega) hc hm h12 (fun k hk => ⟨Nat.le_refl _, u3 k (by omega) hk⟩)
    have eW : X_X10_weighKinds g [.ref 6] M = some (some (.int (b01 (anF (J 73) n 0))), (I', L')) := by
      rw [x_X10_weighKinds_0, show zX (t_X10_weighKinds g) 4 [some (.ref 6), some (.int 0), some (.int 0), none, none] [] M = _ from u1]
      exact w1
    rw [Bool.not_true, bif_f, eW, zbI_s, cEq0_b01]
    refine ⟨I', L', ?_, w2, fun a ha => (w3 a ha).trans (u2 a ha)⟩
    cases anF (J 73) n 0
    · rfl
    · rw [Bool.not_true, bif_f, Bool.true_and, bif_t]
      have hq : ∀ k, k < 5 → odF cd ca (J 73) r k n 0 200000 ≤ 200000 ∧ ((I', L') : zM).2 39 k = lN (odF cd ca (J 73) r k n 0 200000) := fun k hk => ⟨odF_le n 0 200000, w4 k hk⟩
      by_cases ha : a = -1
      · have e := hv_4 g (q := fun k => odF cd ca (J 73) r k n 0 200000) (M := (I', L')) hq 4 1 0 (by omega) (by omega)
        rw [cEq_s ha, bif_t, bif_t, x_X10_heaviestKind_0, show zX (t_X10_heaviestKind g) 4 [some (.ref 6), some (.int 0), some (.int 1)] [] (I', L') = _ from e, zbI_s]
        show _ = some (some (Value.int (nI (beF (fun k => odF cd ca (J 73) r k n 0 200000) 4 1 (if odF cd ca (J 73) r 0 n 0 200000 < odF cd ca (J 73) r 0 n 0 200000 then 0 else 0)))), _)
        rw [if_neg (by omega)]
      · obtain ⟨w, hw, rfl⟩ := inb_m14 hi ha
        have e := sm_5 g (q := fun k => odF cd ca (J 73) r k n 0 200000) (a1 := nI w) (M := (I', L')) hq 5 0 0 (by omega)
        have hsu := suF_le (q := fun k => odF cd ca (J 73) r k n 0 200000) (fun k hk => (hq k hk).1) 5 0 (by omega)
        have hin : inb (nI w) 0 4 = true := (inb_nI (k := w) (a := 0) (b := 4) (by omega) (by omega) (by omega)).trans (by simp; omega)
        obtain ⟨o1, o2⟩ := hq w (by omega)
        have hmul : odF cd ca (J 73) r w n 0 200000 * 1000000 ≤ 200000 * 1000000 := Nat.mul_le_mul_right _ o1
        rw [Nat.zero_add] at e
        rw [cEq_n ha, bif_f, bif_f, x_X10_shareOfMillion_0, show zX (t_X10_shareOfMillion g) 5 [some (.ref 6), some (.int (nI w)), some (.long 0), none, some (.int 0)] [] (I', L') = _ from e, e_X10_shareOfMillion_5, show cLt (nI 5) 5 = false from by decide, bif_f, show cGt0 (lg_cmp (lN (suF (fun k => odF cd ca (J 73) r k n 0 200000) 5 0)) 0) = decide (0 < suF (fun k => odF cd ca (J 73) r k n 0 200000) 5 0) from lN_cmp (b := 0) (by omega) (by omega), zx_nI (by omega)]
        by_cases h0 : suF (fun k => odF cd ca (J 73) r k n 0 200000) 5 0 = 0
        · rw [decide_eq_false (by omega), bif_f, zbI_s, if_pos h0]
        · rw [decide_eq_true (by omega), bif_t, within_s, zbI_s, hin, cEq0_b01, Bool.not_true, bif_f, zbT (by omega) (by omega), bif_t, decide_eq_false (by
            intro e0
            have := (lN_eq (a := suF (fun k => odF cd ca (J 73) r k n 0 200000) 5 0) (b := 0) (by omega) (by omega)).mp e0
            omega), Bool.not_false, bif_t, zbI_s, if_neg h0, o2, show (1000000 : Int64) = lN 1000000 from rfl, lN_mul, lN_div (by omega) (by omega) (by omega), lN_i]
