/-! PURE ROWS: hats on both sides -/
/-- a set without its i lowest; its member numbered i -/
def clN (A : Nat) : Nat → Nat
  | 0 => A
  | i + 1 => clN A i - 2 ^ lowN (clN A i)
def memN (A i : Nat) : Nat := lowN (clN A i)
/-- the member numbered k, sought from t on -/
def rmF (A : Nat) : Nat → Nat → Nat → Nat
  | 0, t, _ => t
  | f + 1, t, k => if bt10 A t = true then (if k = 0 then t else rmF A f (t + 1) (k - 1)) else rmF A f (t + 1) k
theorem mem_t : ∀ A : Fin 1024, ∀ k : Fin 10, k.val < pcN A.val → rmF A.val 10 0 k.val = memN A.val k.val ∧ memN A.val k.val < 10 ∧ bt10 A.val (memN A.val k.val) = true ∧ clN A.val k.val < 1024 ∧ ¬ clN A.val k.val = 0 := by decide +kernel
/-- trailing zeros -/
def tzI (g : zg) (a : Int32) (M : zM) : Option (Option Value × zM) := some (some (.int (nI (lowN (zx a)))), M)
def tz4 (a0 a1 : Int32) : Int32 := bif cGt a0 16 then (bif cGt (zushr a0 4) 4 then (((a1 + 4) + 2) + (zushr (zushr (zushr a0 4) 2) 1)) else ((a1 + 4) + (zushr (zushr a0 4) 1))) else (bif cGt a0 4 then ((a1 + 2) + (zushr (zushr a0 2) 1)) else (a1 + (zushr a0 1)))
theorem tz_49 (g : zg) (a0 a1 : Int32) (M : zM) : zX (t_J6_numberOfTrailingZeros_0f7a4 g) 49 [some (.int a0), some (.int a1)] [] M = some (some (.int (tz4 a0 a1)), M) := by
  rw [e_J6_numberOfTrailingZeros_0f7a4_49]
  unfold tz4
  cases cGt a0 16 <;> cases cGt (zushr a0 4) 4 <;> cases cGt a0 4 <;> rfl
theorem tz_t : ∀ s : Fin 1024, s.val = 0 ∨ (bif cGt0 ((nI s.val ^^^ (-1)) &&& (nI s.val - 1)) then (bif cGt ((nI s.val ^^^ (-1)) &&& (nI s.val - 1)) 65536 then 99 else (bif cGt ((nI s.val ^^^ (-1)) &&& (nI s.val - 1)) 256 then tz4 (zushr ((nI s.val ^^^ (-1)) &&& (nI s.val - 1)) 8) (1 + 8) else tz4 ((nI s.val ^^^ (-1)) &&& (nI s.val - 1)) 1)) else (((nI s.val ^^^ (-1)) &&& (nI s.val - 1)) &&& 32)) = nI (lowN s.val) := by decide +kernel
theorem tz_b : ∀ s : Fin 1024, s.val = 0 ∨ cGt ((nI s.val ^^^ (-1)) &&& (nI s.val - 1)) 65536 = false := by decide +kernel
theorem tz_s (g : zg) {s : Nat} {M : zM} (hs : s < 1024) (h0 : ¬ s = 0) : X_J6_numberOfTrailingZeros_0f7a4 g [.int (nI s)] M = some (some (.int (nI (lowN s))), M) := by
  have e := tz_t ⟨s, hs⟩
  have e2 := tz_b ⟨s, hs⟩
  dsimp only at e e2
  rcases e with e | e
  · exact absurd e h0
  · rcases e2 with e2 | e2
    · exact absurd e2 h0
    · rw [e2, bif_f] at e
      rw [x_J6_numberOfTrailingZeros_0f7a4_0, e2, bif_f, tz_49, tz_49, ← e]
      cases cGt0 ((nI s ^^^ -1) &&& (nI s - 1)) <;> cases cGt ((nI s ^^^ -1) &&& (nI s - 1)) 256 <;> rfl
theorem mo_4 (g : zg) {A i : Nat} {M : zM} (hA : A < 1024) (hi : i < pcN A) (f : Nat) : ∀ j, j + f = i → zX (t_X2_memberOf g) 4 [none, some (.int (nI i)), some (.int (nI (clN A j))), some (.int (nI j))] [] M = some (some (.int (nI (memN A i))), M) := by
  have hpc := pc10 A
  induction f with
  | zero =>
    intro j hj
    have : j = i := by omega
    subst this
    obtain ⟨_, _, _, e4, e5⟩ := mem_t ⟨A, hA⟩ ⟨j, by omega⟩ hi
    rw [e_X2_memberOf_4, cLtF (Nat.le_refl j) (by omega), bif_f, tz_s g e4 e5, zbI_s]
    rfl
  | succ f ih =>
    intro j hj
    obtain ⟨_, _, _, e4, e5⟩ := mem_t ⟨A, hA⟩ ⟨j, by omega⟩ (by show j < pcN A; omega)
    rcases low_t ⟨clN A j, e4⟩ with e | ⟨_, e2, _⟩
    · exact absurd e e5
    · dsimp only at e2
      rw [e_X2_memberOf_4, cLtT (by omega) (by omega), bif_t, e2, nI_s1]
      exact ih (j + 1) (by omega)
theorem member_s (g : zg) {A i : Nat} {M : zM} (hA : A < 1024) (hi : i < pcN A) : X_X2_memberOf g [.int (nI A), .int (nI i)] M = some (some (.int (nI (memN A i))), M) := (x_X2_memberOf_0 g (nI A) (nI i) M).trans (mo_4 g hA hi i 0 (by omega))
/-- may the one numbered k have hat h -/
def dH (so : Nat → Int32) (A k h : Nat) : Bool := !cEq (so h) (so (memN A k))
theorem sL_r {f : Nat → Nat} (N : Nat) : sL f (List.range (N + 1)) = sL f (List.range N) + f N := by
  have app : ∀ (L K : List Nat), sL f (L ++ K) = sL f L + sL f K := by
    intro L K
    induction L with
    | nil => show _ = 0 + _; rw [Nat.zero_add]; rfl
    | cons x xs ih => show f x + sL f (xs ++ K) = f x + sL f xs + sL f K; rw [ih, Nat.add_assoc]
  rw [List.range_succ, app]
  show _ = _ + f N
  rw [show sL f [N] = f N + 0 from rfl, Nat.add_zero]
theorem xor_bit {s h : Nat} (hb : bt10 s h = true) : s ^^^ 2 ^ h = s - 2 ^ h := by
  have hx : bt10 (s ^^^ 2 ^ h) h = false := by
    rw [bt_tb, Nat.testBit_xor, Nat.testBit_two_pow, decide_eq_true rfl, ← bt_tb, hb]
    rfl
  have e : (s ^^^ 2 ^ h) ||| 2 ^ h = s := by
    apply Nat.eq_of_testBit_eq
    intro i
    rw [Nat.testBit_or, Nat.testBit_xor, Nat.testBit_two_pow]
    rw [bt_tb] at hb
    by_cases e : h = i
    · subst e
      rw [hb, decide_eq_true rfl]
      rfl
    · rw [decide_eq_false e, Bool.xor_false, Bool.or_false]
  rw [or_add hx] at e
  omega
theorem wh_14 (g : zg) (h2 : g.2 = true) {n s k A : Nat} {J : zI} {M : zM} (hc : CRJ n 7 8 M.1 J) (hs : s < 1024) (hsub : ∀ t, bt10 s t = true → t < n) (hT : ∀ h, bt10 s h = true → M.1 241 (s - 2 ^ h) = nI (FF (dH (J 76) A) k (s - 2 ^ h))) (f : Nat) : ∀ h, h + f = 10 → zX (t_X2_waysWithHats g) 14 [some (.ref 240), some (.ref 7), some (.int (nI s)), none, some (.int (nI (sL (fun h => if (bt10 s h && dH (J 76) A k h) = true then FF (dH (J 76) A) k (s - 2 ^ h) else 0) (List.range h)))), some (.int (J 76 (memN A k))), some (.int (nI h))] [] M = some (some (.int (nI (FF (dH (J 76) A) (k + 1) s))), M) := by
  have h7 : CO 7 8 := Or.inl ⟨rfl, rfl⟩
  obtain ⟨hn, hc2, _⟩ := CR_f hc
  induction f with
  | zero =>
    intro h hf
    have : h = 10 := by omega
    subst this
    rw [e_X2_waysWithHats_14 g h2, show cLt (nI 10) 10 = false from by decide, bif_f]
    rfl
  | succ f ih =>
    intro h hf
    have ih' := ih (h + 1) (by omega)
    rw [sL_r] at ih'
    rw [e_X2_waysWithHats_14 g h2, cLtLT (N := 10) (by omega) (by omega), bif_t]
    have hbit : cEq ((nI s >>> (nI h &&& 31)) &&& 1) 1 = bt10 s h := by
      rw [pk_shrN (by omega) (nI h &&& 31) h (sl32 ⟨h, by omega⟩), show nI (s / 2 ^ h) &&& 1 = nI (s / 2 ^ h % 2) from pk_andN (n := s / 2 ^ h) (by have := Nat.div_le_self s (2 ^ h); omega) (m := 1) 1 (by decide), cEq_lit (m := s / 2 ^ h % 2) (k := 1) (y := 1) (by omega) (by omega) rfl]
      rfl
    rw [hbit, nI_s1]
    cases hb : bt10 s h with
    | false =>
      rw [bif_f]
      rw [hb, Bool.false_and, if_neg (by decide), Nat.add_zero] at ih'
      exact ih'
    | true =>
      have hhn := hsub h hb
      have hp := p2_lt (t := h) (by omega)
      rw [bif_t, getX g h7 (k := 0) (kk := 0) hn hc2 hhn (by omega) rfl rfl, zbI_s, CR_so hc hhn, one_sh (by omega), nI_xor, xor_bit hb, zbT (by omega) (by omega), bif_t, zx_nI (by omega), hT h hb, nI_ad2]
      rw [hb, Bool.true_and] at ih'
      unfold dH at ih'
      cases hE : cEq (J 76 h) (J 76 (memN A k)) with
      | true =>
        rw [hE, Bool.not_true, if_neg (by decide), Nat.add_zero] at ih'
        rw [bif_t]
        exact ih'
      | false =>
        rw [hE, Bool.not_false, if_pos rfl] at ih'
        rw [bif_f]
        exact ih'
theorem wr_14 (g : zg) (h2 : g.2 = true) {n A : Nat} {J : zI} (hA : A < 1024) (hAn : ∀ t, bt10 A t = true → t < n) (f : Nat) : ∀ (s : Nat) (M : zM), CRJ n 7 8 M.1 J → s + f = A + 1 → 1 ≤ s → (∀ x, x < s → subB x A = true → M.1 241 x = nI (FF (dH (J 76) A) (pcN x) x)) → ∃ I', zX (t_X2_wrongHats g) 14 [some (.ref 240), some (.ref 7), some (.int (nI A)), some (.int (nI s))] [] M = some (some (.int (nI (FF (dH (J 76) A) (pcN A) A))), (I', M.2)) ∧ ∀ a, a ≠ 241 → I' a = M.1 a := by
  have h7 : CO 7 8 := Or.inl ⟨rfl, rfl⟩
  induction f with
  | zero =>
    intro s M hc hs h1 hT
    refine ⟨M.1, ?_, fun _ _ => rfl⟩
    rw [e_X2_wrongHats_14 g h2, cGt_nI (by omega) (by omega), decide_eq_true (by omega), bif_t, zbT (by omega) (by omega), bif_t, zx_nI (by omega), hT A (by omega) (subB_i.mpr (fun t ht => ht))]
  | succ f ih =>
    intro s M hc hs h1 hT
    have hs10 : s < 1024 := by omega
    have hd := dif_lt (a := s) (b := A) hs10
    obtain ⟨hn, hc2, _⟩ := CR_f hc
    rw [e_X2_wrongHats_14 g h2, cGt_nI (by omega) (by omega), decide_eq_false (by omega), bif_f, cLtLT (N := 1024) (by omega) (by omega), bif_t, dif_s, cEq0_nI (by omega), nI_s1]
    cases hS : subB s A with
    | false =>
      have : decide (dif s A = 0) = false := hS
      rw [this, bif_f]
      refine ih (s + 1) M hc (by omega) (by omega) ?_
      intro x hx hsx
      by_cases e : x = s
      · subst e; rw [hsx] at hS; cases hS
      · exact hT x (by omega) hsx
    | true =>
      have hS' : decide (dif s A = 0) = true := hS
      have hsub := subB_i.mp hS
      have hle := (pc_sub hs10 hA hsub).1
      have hpos : 0 < pcN s := by
        apply Nat.pos_of_ne_zero
        intro h
        have := pc_0 hs10 h
        omega
      have hpc := pc10 A
      obtain ⟨_, m1, m2, _⟩ := mem_t ⟨A, hA⟩ ⟨pcN s - 1, by omega⟩ (by show pcN s - 1 < pcN A; omega)
      dsimp only at m1 m2
      have hmn := hAn _ m2
      have eW : X_X2_waysWithHats g [.ref 240, .ref 7, .int (nI s), .int (nI (memN A (pcN s - 1)))] M = some (some (.int (nI (FF (dH (J 76) A) (pcN s) s))), M) := by
        have e := wh_14 g h2 (s := s) (k := pcN s - 1) (A := A) hc hs10 (fun t ht => hAn t (hsub t ht)) (by
          intro h hb
          have hh10 : h < 10 := by have := hAn h (hsub h hb); omega
          have ex := xor_bit hb
          have hxb : bt10 (s - 2 ^ h) h = false := by
            rw [← ex, bt_tb, Nat.testBit_xor, Nat.testBit_two_pow, decide_eq_true rfl, ← bt_tb, hb]
            rfl
          have hp := p2_lt hh10
          have hle2 : 2 ^ h ≤ s := by
            apply Classical.byContradiction
            intro hn'
            rw [bt_big (k := h) (by omega) (Nat.le_refl h)] at hb
            cases hb
          have hor : (s - 2 ^ h) ||| 2 ^ h = s := by rw [or_add hxb]; omega
          have hpi := pc_ins (s - 2 ^ h) h (by omega) hh10 hxb
          rw [hor] at hpi
          have hsx : subB (s - 2 ^ h) A = true := by
            refine subB_i.mpr (fun t ht => hsub t ?_)
            rw [← hor, or_bt, ht, Bool.true_or]
          rw [hT (s - 2 ^ h) (by omega) hsx, show pcN s - 1 = pcN (s - 2 ^ h) by omega]) 10 0 (by omega)
        rw [show pcN s - 1 + 1 = pcN s by omega] at e
        rw [x_X2_waysWithHats_0 g h2, getX g h7 (k := 0) (kk := 0) hn hc2 hmn (by omega) rfl rfl, zbI_s, CR_so hc hmn]
        exact e
      rw [hS', bif_t, bitCount_s g hs10, zbI_s, show nI (pcN s) - 1 = nI (pcN s - 1) from nI_sub (a := pcN s) (b := 1) (by omega), member_s g hA (by omega), zbI_s, eW, zbI_s, zbT (by omega) (by omega), bif_t, zx_nI (by omega)]
      obtain ⟨I', q1, q2⟩ := ih (s + 1) ((zu M.1 241 s (nI (FF (dH (J 76) A) (pcN s) s))), M.2) (by
        unfold CRJ
        dsimp only
        rw [zu_ne (by omega), zu_ne (by omega)]
        exact hc) (by omega) (by omega) (by
        intro x hx hsx
        dsimp only
        by_cases e : x = s
        · subst e; exact zu_eq
        · rw [zu_ne2 e]; exact hT x (by omega) hsx)
      exact ⟨I', q1, fun a ha => (q2 a ha).trans (zu_ne ha)⟩
theorem hatsC_s (g : zg) (h2 : g.2 = true) {n : Nat} {J : zI} {M : zM} (hc : CRJ n 7 8 M.1 J) : ∃ I', X_X2_wrongHats g [.ref 240, .ref 7] M = some (some (.int (nI (FF (dH (J 76) (hereN (J 73) n)) (pcN (hereN (J 73) n)) (hereN (J 73) n)))), (I', M.2)) ∧ ∀ a, a ≠ 241 → I' a = M.1 a := by
  obtain ⟨hn, _⟩ := CR_f hc
  have hb := seF_set (p := fun t => cEq0 (J 73 (38 + t))) hn
  have hAn : ∀ t, bt10 (hereN (J 73) n) t = true → t < n := by
    intro t ht
    unfold hereN at ht
    rw [hb.2.2 t] at ht
    exact of_decide_eq_true (Bool.and_eq_true _ _ ▸ ht).1
  obtain ⟨I', q1, q2⟩ := wr_14 g h2 (A := hereN (J 73) n) hb.2.1 hAn (hereN (J 73) n) 1 ((zu M.1 241 0 1), M.2) (by
    unfold CRJ
    dsimp only
    rw [zu_ne (by omega), zu_ne (by omega)]
    exact hc) (by omega) (by omega) (by
    intro x hx _
    have : x = 0 := by omega
    subst this
    dsimp only
    rw [zu_eq]
    rfl)
  refine ⟨I', ?_, fun a ha => (q2 a ha).trans (zu_ne ha)⟩
  rw [x_X2_wrongHats_0 g h2, servSet_s g hc, zbI_s]
  exact q1
