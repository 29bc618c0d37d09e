/-! PURE ROWS: hats, the reference -/
theorem ht_51 (g : zg) {A s : Nat} {N : zM} (hA : A < 1024) (f : Nat) : ∀ t k, t + f ≤ 10 → k ≤ 10 → bt10 A (rmF A f t k) = true → rmF A f t k < t + f → zX (t_X12_hats g) 51 [some (.ref 72), some (.int (nI A)), some (.int (nI s)), some (.int (nI t)), some (.int (nI k)), none, none] [] N = zX (t_X12_hats g) 93 [some (.ref 72), some (.int (nI A)), some (.int (nI s)), some (.int (nI (rmF A f t k))), none, some (.int 0), some (.int 0)] [] N := by
  induction f with
  | zero =>
    intro t k _ _ _ hlt
    exact absurd hlt (by show ¬ t < t + 0; omega)
  | succ f ih =>
    intro t k ht hk hb hlt
    have stp : rmF A (f + 1) t k = if bt10 A t = true then (if k = 0 then t else rmF A f (t + 1) (k - 1)) else rmF A f (t + 1) k := rfl
    rw [stp] at hb hlt ⊢
    rw [e_X12_hats_51, has_s g (by omega) (by omega), zbI_s, has_s g (by omega) (by omega), zbI_s, cEq0_b01, nI_s1, cGt0_nI (by omega)]
    cases hbt : bt10 A t with
    | false =>
      rw [hbt, if_neg (by decide)] at hb hlt
      rw [Bool.not_false, bif_t, bif_t, if_neg (by decide)]
      exact ih (t + 1) k (by omega) hk hb (by omega)
    | true =>
      rw [hbt, if_pos rfl] at hb hlt
      rw [Bool.not_true, bif_f, if_pos rfl]
      by_cases h0 : k = 0
      · rw [if_pos h0, decide_eq_false (by omega), bif_f]
      · rw [if_neg h0] at hb hlt
        rw [if_neg h0, decide_eq_true (by omega), bif_t, bif_f, show nI k - 1 = nI (k - 1) from nI_sub (a := k) (b := 1) (by omega)]
        exact ih (t + 1) (k - 1) (by omega) (by omega) hb (by omega)
theorem ht_93 (g : zg) {n A s r t : Nat} {N : zM} (hn : n ≤ 10) (hm6 : N.1 72 6 = nI n) (hA : A < 1024) (hs : s < 1024) (ht : t < 10) (hAn : ∀ o, bt10 A o = true → o < n) (htk : t = memN A (pcN A - (r + 1))) (hT : ∀ o, bt10 A o = true → bt10 s o = false → N.1 98 (s ||| 2 ^ o) = nI (BB (dH (N.1 76) A) A (pcN A) r (s ||| 2 ^ o))) (f : Nat) : ∀ o, o + f = n → zX (t_X12_hats g) 93 [some (.ref 72), some (.int (nI A)), some (.int (nI s)), some (.int (nI t)), none, some (.int (nI (sL (fun o => if (bt10 A o && !bt10 s o && dH (N.1 76) A (pcN A - (r + 1)) o) = true then BB (dH (N.1 76) A) A (pcN A) r (s ||| 2 ^ o) else 0) (List.range o)))), some (.int (nI o))] [] N = zX (t_X12_hats g) 12 [some (.ref 72), some (.int (nI A)), some (.int (nI s + (-1))), none, none, none, none] [] ((zu N.1 98 s (nI (BB (dH (N.1 76) A) A (pcN A) (r + 1) s))), N.2) := by
  induction f with
  | zero =>
    intro o ho
    have : o = n := by omega
    subst this
    rw [e_X12_hats_93, hm6, cLtF (Nat.le_refl o) (by omega), bif_f, zbT (by omega) (by omega), bif_t, zx_nI (by omega)]
    have more : ∀ m, sL (fun o => if (bt10 A o && !bt10 s o && dH (N.1 76) A (pcN A - (r + 1)) o) = true then BB (dH (N.1 76) A) A (pcN A) r (s ||| 2 ^ o) else 0) (List.range (o + m)) = sL (fun o => if (bt10 A o && !bt10 s o && dH (N.1 76) A (pcN A - (r + 1)) o) = true then BB (dH (N.1 76) A) A (pcN A) r (s ||| 2 ^ o) else 0) (List.range o) := by
      intro m
      induction m with
      | zero => rfl
      | succ m ih =>
        rw [show o + (m + 1) = o + m + 1 by omega, sL_r, ih]
        have : bt10 A (o + m) = false := by
          cases h : bt10 A (o + m) with
          | false => rfl
          | true => have := hAn _ h; omega
        rw [this, Bool.false_and, Bool.false_and, if_neg (by decide), Nat.add_zero]
    have e := more (10 - o)
    rw [show o + (10 - o) = 10 by omega] at e
    rw [← e]
    rfl
  | succ f ih =>
    intro o ho
    have ih' := ih (o + 1) (by omega)
    rw [sL_r] at ih'
    have hd : dif A s < 1024 := dif_lt hA
    rw [e_X12_hats_93, hm6, cLtT (by omega) (by omega), bif_t, dif_s, has_s g (by omega) (by omega), zbI_s, cEq0_b01, dif_bt, nI_s1]
    cases hc : (bt10 A o && !bt10 s o) with
    | false =>
      rw [hc, Bool.false_and, if_neg (by decide), Nat.add_zero] at ih'
      rw [Bool.not_false, bif_t]
      exact ih'
    | true =>
      have h1 : bt10 A o = true := (Bool.and_eq_true _ _ ▸ hc).1
      have h3 : bt10 s o = false := by
        have := (Bool.and_eq_true _ _ ▸ hc).2
        cases h : bt10 s o with
        | false => rfl
        | true => rw [h] at this; cases this
      have hp := p2_lt (t := o) (by omega)
      have hor := or_lt hs hp.1
      rw [hc, Bool.true_and] at ih'
      unfold dH at ih'
      rw [← htk] at ih'
      rw [Bool.not_true, bif_f, zbT (by omega) (by omega), bif_t, zbT (by omega) (by omega), bif_t, zx_nI (by omega), zx_nI (by omega), one_sh (by omega), nI_or, zbT (by omega) (by omega), bif_t, zx_nI (by omega), hT o h1 h3, nI_ad2]
      cases hE : cEq (N.1 76 o) (N.1 76 t) with
      | true =>
        rw [hE, Bool.not_true, if_neg (by decide), Nat.add_zero] at ih'
        rw [bif_t, htk]
        rw [htk] at ih'
        exact ih'
      | false =>
        rw [hE, Bool.not_false, if_pos rfl] at ih'
        rw [bif_f, htk]
        rw [htk] at ih'
        exact ih'
theorem ht_12 (g : zg) {n A : Nat} {so : Nat → Int32} (hn : n ≤ 10) (hA : A < 1024) (hAn : ∀ o, bt10 A o = true → o < n) : ∀ (k : Nat) (N : zM), k ≤ A + 1 → N.1 72 6 = nI n → N.1 76 = so → (∀ x, k ≤ x → subB x A = true → N.1 98 x = nI (BB (dH so A) A (pcN A) (pcN A - pcN x) x)) → ∃ J', zX (t_X12_hats g) 12 [some (.ref 72), some (.int (nI A)), some (.int (nI k + (-1))), none, none, none, none] [] N = some (some (.int (nI (BB (dH so A) A (pcN A) (pcN A) 0))), (J', N.2)) ∧ ∀ a, a ≠ 98 → J' a = N.1 a := by
  intro k
  induction k with
  | zero =>
    intro N _ hm6 hso hT
    refine ⟨N.1, ?_, fun _ _ => rfl⟩
    have e := hT 0 (by omega) (subB_i.mpr (fun t ht => by rw [bt_big (a := 0) (k := 0) (by omega) (by omega)] at ht; cases ht))
    rw [show pcN 0 = 0 from by decide, Nat.sub_zero] at e
    rw [e_X12_hats_12, show cLt0 (nI 0 + (-1)) = true from by decide, bif_t, e]
  | succ s ih =>
    intro N hk hm6 hso hT
    have hs10 : s < 1024 := by omega
    have hd := dif_lt (a := s) (b := A) hs10
    rw [nI_m1, e_X12_hats_12, cLt0_nI (by omega), bif_f, dif_s, cEq0_nI (by omega)]
    cases hS : subB s A with
    | false =>
      have hS' : decide (dif s A = 0) = false := hS
      rw [hS', bif_f]
      refine ih N (by omega) hm6 hso ?_
      intro x hx hsx
      by_cases e : x = s
      · subst e; rw [hsx] at hS; cases hS
      · exact hT x (by omega) hsx
    | true =>
      have hS' : decide (dif s A = 0) = true := hS
      have hsub := subB_i.mp hS
      obtain ⟨hle, heq⟩ := pc_sub hs10 hA hsub
      have fin : ∃ J', zX (t_X12_hats g) 12 [some (.ref 72), some (.int (nI A)), some (.int (nI s + (-1))), none, none, none, none] [] ((zu N.1 98 s (nI (BB (dH so A) A (pcN A) (pcN A - pcN s) s))), N.2) = some (some (.int (nI (BB (dH so A) A (pcN A) (pcN A) 0))), (J', N.2)) ∧ ∀ a, a ≠ 98 → J' a = N.1 a := by
        obtain ⟨J', q1, q2⟩ := ih ((zu N.1 98 s (nI (BB (dH so A) A (pcN A) (pcN A - pcN s) s))), N.2) (by omega) (by dsimp only; rw [zu_ne (by omega)]; exact hm6) (by dsimp only; rw [zu_ne (by omega)]; exact hso) (by
          intro x hx hsx
          dsimp only
          by_cases e : x = s
          · subst e; exact zu_eq
          · rw [zu_ne2 e]; exact hT x (by omega) hsx)
        exact ⟨J', q1, fun a ha => (q2 a ha).trans (zu_ne ha)⟩
      rw [hS', bif_t, cEq_nI (by omega) (by omega)]
      by_cases e : s = A
      · rw [decide_eq_true e, bif_t, zbT (by omega) (by omega), bif_t, zx_nI (by omega)]
        rw [e, Nat.sub_self] at fin
        rw [e]
        exact fin
      · have hlt : pcN s < pcN A := by
          rcases Nat.lt_or_ge (pcN s) (pcN A) with h | h
          · exact h
          · exact absurd (heq (by omega)) e
        have hpc := pc10 A
        obtain ⟨m0, m1, m2, _⟩ := mem_t ⟨A, hA⟩ ⟨pcN s, by omega⟩ hlt
        dsimp only at m0 m1 m2
        have e51 := ht_51 g (s := s) (N := N) hA 10 0 (pcN s) (by omega) (by omega) (by rw [m0]; exact m2) (by rw [m0]; omega)
        rw [m0] at e51
        have e93 := ht_93 g (n := n) (A := A) (s := s) (r := pcN A - pcN s - 1) (t := memN A (pcN s)) (N := N) hn hm6 hA hs10 m1 hAn (by congr 1; omega) (by
          intro o h1 h3
          have ho10 : o < 10 := by have := hAn o h1; omega
          have hp := p2_lt ho10
          have hor : s ||| 2 ^ o = s + 2 ^ o := or_add h3
          have hpi := pc_ins s o hs10 ho10 h3
          have hsx : subB (s ||| 2 ^ o) A = true := by
            refine subB_i.mpr (fun t ht => ?_)
            rw [or_bt, p2_bt ho10] at ht
            by_cases et : t = o
            · subst et; exact h1
            · rw [decide_eq_false et, Bool.or_false] at ht
              exact hsub t ht
          rw [hT (s ||| 2 ^ o) (by omega) hsx, hso, hpi, show pcN A - pcN s - 1 = pcN A - (pcN s + 1) by omega]) n 0 (by omega)
        rw [hso, show pcN A - pcN s - 1 + 1 = pcN A - pcN s by omega] at e93
        rw [decide_eq_false e, bif_f, ones_s g hs10, zbI_s, show (some (Value.int 0)) = some (.int (nI 0)) from rfl, e51]
        obtain ⟨J', q1, q2⟩ := fin
        exact ⟨J', (show zX (t_X12_hats g) 93 [some (.ref 72), some (.int (nI A)), some (.int (nI s)), some (.int (nI (memN A (pcN s)))), none, some (.int 0), some (.int 0)] [] N = _ from e93).trans q1, q2⟩
theorem hatsM_s (g : zg) {n : Nat} {N : zM} (hn : n ≤ 10) (hm6 : N.1 72 6 = nI n) : ∃ J', X_X12_hats g [.ref 72] N = some (some (.int (nI (FF (dH (N.1 76) (hereN (N.1 73) n)) (pcN (hereN (N.1 73) n)) (hereN (N.1 73) n)))), (J', N.2)) ∧ ∀ a, a ≠ 98 → J' a = zu N.1 72 0 0 a := by
  have hb := seF_set (p := fun t => cEq0 (N.1 73 (38 + t))) hn
  have hAn : ∀ t, bt10 (hereN (N.1 73) n) t = true → t < n := by
    intro t ht
    unfold hereN at ht
    rw [hb.2.2 t] at ht
    exact of_decide_eq_true (Bool.and_eq_true _ _ ▸ ht).1
  have eh := here_s g (N := ((zu N.1 72 0 0), N.2)) hn (by dsimp only; rw [zu_ne2 (by omega)]; exact hm6)
  dsimp only at eh
  rw [zu_ne (show 73 ≠ 72 by omega)] at eh
  obtain ⟨J', q1, q2⟩ := ht_12 g (A := hereN (N.1 73) n) (so := N.1 76) hn hb.2.1 hAn (hereN (N.1 73) n + 1) ((zu N.1 72 0 0), N.2) (Nat.le_refl _) (by dsimp only; rw [zu_ne2 (by omega)]; exact hm6) (by dsimp only; rw [zu_ne (by omega)]) (by
    intro x hx hsx
    have := sub_le (subB_i.mp hsx)
    omega)
  refine ⟨J', ?_, q2⟩
  rw [x_X12_hats_0, eh, zbI_s, hats_same (A := hereN (N.1 73) n) hb.2.1]
  rw [nI_m1] at q1
  exact q1
