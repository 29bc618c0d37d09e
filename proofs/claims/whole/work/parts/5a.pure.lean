/-! PURE ROWS: who serves where, the class -/
/-- the table from post i on -/
def TC (wt : Nat → Nat → Nat) (m i : Nat) (T : Nat → Int32) : Prop := ∀ i', i ≤ i' → i' ≤ m → ∀ s, s < 1024 → (i' = m ∨ pcN s ≤ i') → T (1024 * i' + s) = nI (gsN wt m (m - i') s)
theorem pc_ins : ∀ (s : Nat) (t : Nat), s < 1024 → t < 10 → bt10 s t = false → pcN (s ||| 2 ^ t) = pcN s + 1 := by
  intro s t hs ht hb
  have hp := p2_lt ht
  rw [pc_cnt, pc_cnt]
  have key : ∀ f k, cntF (fun j => bt10 (s ||| 2 ^ t) j) f k = cntF (fun j => bt10 s j) f k + (if k ≤ t ∧ t < k + f then 1 else 0) := by
    intro f
    induction f with
    | zero => intro k; rw [if_neg (show ¬ (k ≤ t ∧ t < k + 0) by omega)]; rfl
    | succ f ih =>
      intro k
      rw [cntF_s, cntF_s, ih (k + 1), or_bt, p2_bt ht]
      by_cases e : k = t
      · subst e
        rw [decide_eq_true rfl, Bool.or_true, if_pos rfl, hb, if_neg (show ¬ false = true by decide), if_neg (show ¬ (k + 1 ≤ k ∧ k < k + 1 + f) by omega), if_pos (show k ≤ k ∧ k < k + (f + 1) by omega)]
        omega
      · rw [decide_eq_false e, Bool.or_false]
        by_cases e2 : k + 1 ≤ t ∧ t < k + 1 + f
        · rw [if_pos e2, if_pos (show k ≤ t ∧ t < k + (f + 1) by omega)]
          omega
        · rw [if_neg e2, if_neg (show ¬ (k ≤ t ∧ t < k + (f + 1)) by omega)]
          omega
  rw [key 10 0, if_pos (by omega)]
def WT (wt : Nat → Nat → Nat) (T : Nat → Int32) : Prop := ∀ i, i < 6 → ∀ k, k < 10 → T (10 * i + k) = nI (wt i k) ∧ wt i k ≤ 198
theorem gs_51 (g : zg) (h2 : g.2 = true) {wt : Nat → Nat → Nat} {m i : Nat} (hm : m ≤ 6) (hi : i < m) (hw : ∀ i t, wt i t ≤ 198) (f : Nat) : ∀ (s : Nat) (M : zM), s + f = 1024 → WT wt (M.1 242) → TC wt m (i + 1) (M.1 241) → (∀ x, x < s → pcN x ≤ i → M.1 241 (1024 * i + x) = nI (gsN wt m (m - i) x)) → ∃ I', zX (t_X2_greatestService g) 51 [some (.ref 240), none, none, some (.int (nI i)), some (.int (nI s))] [] M = zX (t_X2_greatestService g) 44 [some (.ref 240), none, none, some (.int (nI i + (-1))), none] [] (I', M.2) ∧ (∀ a, a ≠ 241 → I' a = M.1 a) ∧ TC wt m i (I' 241) := by
  induction f with
  | zero =>
    intro s M hs hW hT hx
    refine ⟨M.1, ?_, fun _ _ => rfl, ?_⟩
    · rw [e_X2_greatestService_51 g h2, cLtLF (N := 1024) (by omega) (by omega), bif_f]
    · intro i' h1 h3 x hx' hp
      by_cases e : i' = i
      · subst e
        exact hx x (by omega) (by omega)
      · exact hT i' (by omega) h3 x hx' hp
  | succ f ih =>
    intro s M hs hW hT hx
    have hpc := pc10 s
    rw [e_X2_greatestService_51 g h2, cLtLT (N := 1024) (by omega) (by omega), bif_t, bitCount_s g (by omega), zbI_s, cGt_nI (by omega) (by omega), nI_s1]
    by_cases hq : i < pcN s
    · rw [decide_eq_true hq, bif_t]
      refine ih (s + 1) M (by omega) hW hT ?_
      intro x h1 h3
      by_cases e : x = s
      · subst e; omega
      · exact hx x (by omega) h3
    · rw [decide_eq_false hq, bif_f]
      have hG : ∀ x, gsN wt m (m - (i + 1)) x ≤ 198 * 5 := fun x => Nat.le_trans (gsN_le hw _ _) (by omega)
      have eG : gsN wt m (m - i) s = msF (wt i) s (gsN wt m (m - (i + 1))) 10 0 (gsN wt m (m - (i + 1)) s) := by
        rw [show m - i = (m - (i + 1)) + 1 by omega]
        show msF (wt (m - 1 - (m - (i + 1)))) s _ 10 0 _ = _
        rw [show m - 1 - (m - (i + 1)) = i by omega]
      have e0 : M.1 241 (1024 * (i + 1) + s) = nI (gsN wt m (m - (i + 1)) s) := hT (i + 1) (by omega) (by omega) s (by omega) (by omega)
      have hgs := hG s
      have eB : X_X2_bestFrom g [.ref 240, .int (nI i), .int (nI s)] M = some (some (.int (nI (gsN wt m (m - i) s))), M) := by
        rw [x_X2_bestFrom_0 g h2, nI_s1, ix1024, zbT (by omega) (by omega), bif_t, zx_nI (by omega), e0, eG]
        exact bf_18 g h2 (i := i) (s := s) (B := 198 * 5) (wt := wt i) (G := gsN wt m (m - (i + 1))) (by omega) (by omega) (fun k hk => hW i (by omega) k hk) hG (by omega) (by
          intro k hk hb
          have hp := p2_lt hk
          have hor := or_lt (a := s) (b := 2 ^ k) (by omega) hp.1
          have hpi := pc_ins s k (by omega) hk hb
          exact hT (i + 1) (by omega) (by omega) _ hor (by omega)) 10 0 _ (by omega) (by omega)
      rw [eB, zbI_s, ix1024, zbT (by omega) (by omega), bif_t, zx_nI (by omega)]
      obtain ⟨I', q1, q2, q3⟩ := ih (s + 1) ((zu M.1 241 (1024 * i + s) (nI (gsN wt m (m - i) s))), M.2) (by omega) (by dsimp only; rw [zu_ne (by omega)]; exact hW) (by
        intro i' h1 h3 x hx' hp
        dsimp only
        rw [zu_ne2 (by omega)]
        exact hT i' h1 h3 x hx' hp) (by
        intro x h1 h3
        dsimp only
        by_cases e : x = s
        · subst e; exact zu_eq
        · rw [zu_ne2 (by omega)]
          exact hx x (by omega) h3)
      exact ⟨I', q1, fun a ha => (q2 a ha).trans (zu_ne ha), q3⟩
theorem gs_44 (g : zg) (h2 : g.2 = true) {wt : Nat → Nat → Nat} {m : Nat} (hm : m ≤ 6) (hw : ∀ i t, wt i t ≤ 198) : ∀ (k : Nat) (M : zM), k ≤ m → WT wt (M.1 242) → TC wt m k (M.1 241) → ∃ I', zX (t_X2_greatestService g) 44 [some (.ref 240), none, none, some (.int (nI k + (-1))), none] [] M = some (some (.int (nI (gsN wt m m 0))), (I', M.2)) ∧ (∀ a, a ≠ 241 → I' a = M.1 a) ∧ TC wt m 0 (I' 241) := by
  intro k
  induction k with
  | zero =>
    intro M hk hW hT
    refine ⟨M.1, ?_, fun _ _ => rfl, hT⟩
    rw [e_X2_greatestService_44 g h2, show cLt0 (nI 0 + (-1)) = true from by decide, bif_t]
    have := hT 0 (by omega) (by omega) 0 (by omega) (by right; decide)
    rw [Nat.mul_zero, Nat.zero_add, Nat.sub_zero] at this
    rw [this]
  | succ k ih =>
    intro M hk hW hT
    obtain ⟨I1, q1, q2, q3⟩ := gs_51 g h2 (i := k) hm (by omega) hw 1024 0 M (by omega) hW hT (fun x hx => absurd hx (by omega))
    obtain ⟨I', p1, p2, p3⟩ := ih (I1, M.2) (by omega) (by dsimp only; rw [q2 242 (by omega)]; exact hW) q3
    refine ⟨I', ?_, fun a ha => (p2 a ha).trans (q2 a ha), p3⟩
    rw [e_X2_greatestService_44 g h2, nI_m1, cLt0_nI (by omega), bif_f]
    exact q1.trans p1
theorem gs_8 (g : zg) (h2 : g.2 = true) {m : Nat} (hm : m ≤ 6) (f : Nat) : ∀ (s : Nat) (M : zM), s + f = 1024 → M.1 32 8 = nI m → ∃ I', zX (t_X2_greatestService g) 8 [some (.ref 240), none, some (.ref 32), some (.int (nI s)), none] [] M = zX (t_X2_greatestService g) 44 [some (.ref 240), none, none, some (.int (nI m - 1)), none] [] (I', M.2) ∧ (∀ a, a ≠ 241 → I' a = M.1 a) ∧ (∀ x, s ≤ x → x < 1024 → I' 241 (1024 * m + x) = 0) ∧ ∀ x, x < s → I' 241 (1024 * m + x) = M.1 241 (1024 * m + x) := by
  induction f with
  | zero =>
    intro s M hs h8
    refine ⟨M.1, ?_, fun _ _ => rfl, fun x h1 h3 => absurd h1 (by omega), fun _ _ => rfl⟩
    rw [e_X2_greatestService_8 g h2, cLtLF (N := 1024) (by omega) (by omega), bif_f, h8]
  | succ f ih =>
    intro s M hs h8
    obtain ⟨I', q1, q2, q3, q4⟩ := ih (s + 1) ((zu M.1 241 (1024 * m + s) 0), M.2) (by omega) (by dsimp only; rw [zu_ne (by omega)]; exact h8)
    refine ⟨I', ?_, fun a ha => (q2 a ha).trans (zu_ne ha), ?_, ?_⟩
    · rw [e_X2_greatestService_8 g h2, cLtLT (N := 1024) (by omega) (by omega), bif_t, h8, ix1024, zbT (by omega) (by omega), bif_t, zx_nI (by omega), nI_s1]
      exact q1
    · intro x h1 h3
      by_cases e : x = s
      · subst e
        rw [q4 x (by omega)]
        dsimp only
        exact zu_eq
      · exact q3 x (by omega) h3
    · intro x hx
      rw [q4 x (by omega)]
      dsimp only
      rw [zu_ne2 (by omega)]
theorem great_s (g : zg) (h2 : g.2 = true) {m n : Nat} {J : zI} {M : zM} (hc : CRJ n 7 8 M.1 J) (hp : POJ m M.1 J) : ∃ I', X_X2_greatestService g [.ref 240, .ref 7, .ref 32] M = some (some (.int (nI (gsN (fun i t => wtN (J 76) (J 95) (J 96) (J 73) n m i t) m m 0))), (I', M.2)) ∧ (∀ a, a ≠ 241 → a ≠ 242 → I' a = M.1 a) ∧ TC (fun i t => wtN (J 76) (J 95) (J 96) (J 73) n m i t) m 0 (I' 241) ∧ WT (fun i t => wtN (J 76) (J 95) (J 96) (J 73) n m i t) (I' 242) := by
  have hm := hp.1
  have hw : ∀ i t, wtN (J 76) (J 95) (J 96) (J 73) n m i t ≤ 198 := fun i t => wtN_le hp
  obtain ⟨I1, q1, q2, q3, _⟩ := cw_2 g h2 6 0 M hc hp (by omega)
  have hW1 : WT (fun i t => wtN (J 76) (J 95) (J 96) (J 73) n m i t) (I1 242) := fun i hi k hk => ⟨q3 i (by omega) hi k hk, hw i k⟩
  obtain ⟨I2, p1, p2, p3, _⟩ := gs_8 g h2 hm 1024 0 (I1, M.2) (by omega) (by dsimp only; rw [q2 32 (by omega)]; exact hp.2.1)
  obtain ⟨I', r1, r2, r3⟩ := gs_44 g h2 (wt := fun i t => wtN (J 76) (J 95) (J 96) (J 73) n m i t) hm hw m (I2, M.2) (Nat.le_refl m) (by dsimp only; rw [p2 242 (by omega)]; exact hW1) (by
    intro i' h1 h3 s hs _
    have : i' = m := by omega
    subst this
    rw [Nat.sub_self]
    exact p3 s (by omega) hs)
  refine ⟨I', ?_, ?_, r3, ?_⟩
  · rw [x_X2_greatestService_0 g h2, x_X2_countWorths_0 g h2, show zX (t_X2_countWorths g) 2 [some (.ref 240), some (.ref 7), some (.ref 32), some (.int 0), none, none] [] M = _ from q1, zbV_s, show zX (t_X2_greatestService g) 8 [some (.ref 240), none, some (.ref 32), some (.int 0), none] [] (I1, M.2) = _ from p1, Int32.sub_eq_add_neg]
    exact r1
  · intro a h1 h3
    rw [r2 a h1]
    dsimp only
    rw [p2 a h1]
    exact q2 a h3
  · rw [r2 242 (by omega)]
    dsimp only
    rw [p2 242 (by omega)]
    exact hW1
/-- the first who may hold a post -/
def fhF (wt : Nat → Nat) (s : Nat) (G : Nat → Nat) (b : Nat) : Nat → Nat → Option Nat
  | 0, _ => none
  | f + 1, t => if 0 < wt t ∧ bt10 s t = false ∧ wt t + G (s ||| 2 ^ t) = b then some t else fhF wt s G b f (t + 1)
theorem fh_16 (g : zg) (h2 : g.2 = true) {i s b : Nat} {wt : Nat → Nat} {G : Nat → Nat} {M : zM} (hi : i < 6) (hs : s < 1024) (hb : b ≤ 2000) (hw : ∀ k, k < 10 → M.1 242 (10 * i + k) = nI (wt k) ∧ wt k ≤ 198) (hG : ∀ x, G x ≤ 2000) (ht : ∀ k, k < 10 → bt10 s k = false → M.1 241 (1024 * (i + 1) + (s ||| 2 ^ k)) = nI (G (s ||| 2 ^ k))) (f : Nat) : ∀ t, t + f = 10 → zX (t_X2_firstHolder g) 16 [some (.ref 240), some (.int (nI i)), some (.int (nI s)), some (.int (nI b)), some (.int (nI t)), none] [] M = some (some (.int (bI (fhF wt s G b f t))), M) := by
  induction f with
  | zero =>
    intro t htf
    rw [e_X2_firstHolder_16 g h2, cLtLF (N := 10) (by omega) (by omega), bif_f]
    rfl
  | succ f ih =>
    intro t htf
    obtain ⟨e1, e2⟩ := hw t (by omega)
    have hp := p2_lt (t := t) (by omega)
    have hor := or_lt hs hp.1
    have hg := hG (s ||| 2 ^ t)
    have ih' := ih (t + 1) (by omega)
    rw [e_X2_firstHolder_16 g h2, cLtLT (N := 10) (by omega) (by omega), bif_t, ix10, zbT (by omega) (by omega), bif_t, zx_nI (by omega), e1, cGt0_nI (by omega), has0 (by omega) (by omega), nI_s1, nI_s1]
    show _ = some (some (Value.int (bI (if 0 < wt t ∧ bt10 s t = false ∧ wt t + G (s ||| 2 ^ t) = b then some t else fhF wt s G b f (t + 1)))), M)
    by_cases hpos : 0 < wt t
    · rw [decide_eq_true hpos, bif_t]
      cases hbt : bt10 s t
      · rw [Bool.not_false, bif_t, one_sh (by omega), nI_or, ix1024, zbT (by omega) (by omega), bif_t, zx_nI (by omega), ht t (by omega) hbt, nI_ad2, cEq_nI (by omega) (by omega)]
        by_cases hq : wt t + G (s ||| 2 ^ t) = b
        · rw [decide_eq_true hq, bif_t, if_pos ⟨hpos, rfl, hq⟩]
          rfl
        · rw [decide_eq_false hq, bif_f, if_neg (fun x => hq x.2.2)]
          exact ih'
      · rw [Bool.not_true, bif_f, if_neg (fun x => by cases x.2.1)]
        exact ih'
    · rw [decide_eq_false hpos, bif_f, if_neg (fun x => hpos x.1)]
      exact ih'
/-- who holds the post, posts p and on (f of them), s those who serve already, h the holder ahead -/
def hoF (wt : Nat → Nat → Nat) (m : Nat) : Nat → Nat → Nat → Option Nat → Option Nat
  | 0, _, _, h => h
  | f + 1, p, s, _ => hoF wt m f (p + 1) (match fhF (wt p) s (gsN wt m (m - (p + 1))) (gsN wt m (m - p) s) 10 0 with
    | none => s
    | some t => s ||| 2 ^ t) (fhF (wt p) s (gsN wt m (m - (p + 1))) (gsN wt m (m - p) s) 10 0)
theorem fhF_b {wt : Nat → Nat} {s : Nat} {G : Nat → Nat} {b : Nat} (f : Nat) : ∀ t u, fhF wt s G b f t = some u → u < t + f ∧ bt10 s u = false ∧ 0 < wt u := by
  induction f with
  | zero => intro t u h; cases h
  | succ f ih =>
    intro t u h
    have h' : (if 0 < wt t ∧ bt10 s t = false ∧ wt t + G (s ||| 2 ^ t) = b then some t else fhF wt s G b f (t + 1)) = some u := h
    split at h'
    · rename_i hc
      cases h'
      exact ⟨by omega, hc.2.1, hc.1⟩
    · have := ih (t + 1) u h'
      exact ⟨by omega, this.2⟩
theorem ho_16 (g : zg) (h2 : g.2 = true) {wt : Nat → Nat → Nat} {m q : Nat} {M : zM} (hm : m ≤ 6) (hq : q < m) (hw : ∀ i t, wt i t ≤ 198) (hW : WT wt (M.1 242)) (hT : TC wt m 0 (M.1 241)) (h8 : M.1 32 8 = nI m) (f : Nat) : ∀ (p s : Nat) (h : Option Nat), p + f = q + 1 → s < 1024 → pcN s ≤ p → zX (t_X2_holderOf g) 16 [some (.ref 240), none, some (.ref 32), some (.int (nI q)), some (.int (nI s)), some (.int (bI h)), some (.int (nI p))] [] M = some (some (.int (bI (hoF wt m f p s h))), M) := by
  induction f with
  | zero =>
    intro p s h hp hs hpc
    rw [e_X2_holderOf_16 g h2, cGt_nI (by omega) (by omega), decide_eq_true (by omega), bif_t]
    rfl
  | succ f ih =>
    intro p s h hp hs hpc
    have hG : ∀ j x, j ≤ 6 → gsN wt m j x ≤ 2000 := fun j x hj => Nat.le_trans (gsN_le hw _ _) (by omega)
    have e0 : M.1 241 (1024 * p + s) = nI (gsN wt m (m - p) s) := hT p (by omega) (by omega) s hs (by omega)
    have eF : X_X2_firstHolder g [.ref 240, .int (nI p), .int (nI s)] M = some (some (.int (bI (fhF (wt p) s (gsN wt m (m - (p + 1))) (gsN wt m (m - p) s) 10 0))), M) := by
      rw [x_X2_firstHolder_0 g h2, ix1024, zbT (by omega) (by omega), bif_t, zx_nI (by omega), e0]
      exact fh_16 g h2 (i := p) (s := s) (b := gsN wt m (m - p) s) (wt := wt p) (G := gsN wt m (m - (p + 1))) (by omega) hs (hG _ _ (by omega)) (fun k hk => hW p (by omega) k hk) (fun x => hG _ x (by omega)) (by
        intro k hk hb
        have hp2 := p2_lt hk
        have hor := or_lt hs hp2.1
        have hpi := pc_ins s k hs hk hb
        exact hT (p + 1) (by omega) (by omega) _ hor (by omega)) 10 0 (by omega)
    rw [e_X2_holderOf_16 g h2, cGt_nI (by omega) (by omega), decide_eq_false (by omega), bif_f, h8, cLtT (by omega) (by omega), bif_t, eF, zbI_s, nI_s1]
    show _ = some (some (Value.int (bI (hoF wt m f (p + 1) (match fhF (wt p) s (gsN wt m (m - (p + 1))) (gsN wt m (m - p) s) 10 0 with
      | none => s
      | some t => s ||| 2 ^ t) (fhF (wt p) s (gsN wt m (m - (p + 1))) (gsN wt m (m - p) s) 10 0)))), M)
    have hfb := fhF_b (wt := wt p) (s := s) (G := gsN wt m (m - (p + 1))) (b := gsN wt m (m - p) s) 10 0
    generalize fhF (wt p) s (gsN wt m (m - (p + 1))) (gsN wt m (m - p) s) 10 0 = fo at hfb ⊢
    cases fo with
    | none =>
      rw [show cEq (bI none) (-1) = true from by decide, bif_t]
      exact ih (p + 1) s none (by omega) hs (by omega)
    | some t =>
      obtain ⟨b1, b2, _⟩ := hfb t rfl
      have hp2 := p2_lt (t := t) (by omega)
      have hor := or_lt hs hp2.1
      have hpi := pc_ins s t hs (by omega) b2
      have eb : bI (some t) = nI t := rfl
      rw [cEq_n (bI_ne (by omega)), bif_f, eb, one_sh (by omega), nI_or]
      exact ih (p + 1) (s ||| 2 ^ t) (some t) (by omega) hor (by omega)
