/-! PURE ROWS: sets of tellers -/
theorem nI_and (a b : Nat) : nI a &&& nI b = nI (a &&& b) := by
  apply Int32.toBitVec_inj.mp
  show BitVec.ofNat 32 a &&& BitVec.ofNat 32 b = BitVec.ofNat 32 (a &&& b)
  exact BitVec.ofNat_and.symm
theorem nI_or (a b : Nat) : nI a ||| nI b = nI (a ||| b) := by
  apply Int32.toBitVec_inj.mp
  show BitVec.ofNat 32 a ||| BitVec.ofNat 32 b = BitVec.ofNat 32 (a ||| b)
  exact BitVec.ofNat_or.symm
theorem sl32 : ∀ n : Fin 32, ((nI n.val &&& 31).toBitVec.smod 32).toNat = n.val := by decide +kernel
theorem one_sh {t : Nat} (ht : t < 31) : (1 : Int32) <<< (nI t &&& 31) = nI (2 ^ t) := by
  have e := pk_shlN (n := 1) (nI t &&& 31) t (sl32 ⟨t, by omega⟩) (by
    rw [Nat.one_mul]
    exact Nat.pow_lt_pow_right (by omega) (by omega))
  rw [Nat.one_mul] at e
  exact e
/-- is t in the set -/
def bt10 (s t : Nat) : Bool := decide (s / 2 ^ t % 2 = 1)
theorem has_s (g : zg) {s t : Nat} {N : zM} (hs : s < 2147483648) (ht : t < 31) : X_X12_has g [.ref 72, .int (nI s), .int (nI t)] N = some (some (.int (b01 (bt10 s t))), N) := by
  rw [x_X12_has_0, pk_shrN (by omega) (nI t &&& 31) t (sl32 ⟨t, by omega⟩), show nI (s / 2 ^ t) &&& 1 = nI (s / 2 ^ t % 2) from pk_andN (n := s / 2 ^ t) (by have := Nat.div_le_self s (2 ^ t); omega) (m := 1) 1 (by decide), cEq_lit (m := s / 2 ^ t % 2) (k := 1) (y := 1) (by omega) (by omega) rfl, cif01]
  rfl
/-- how many are in the set -/
def pcN (s : Nat) : Nat := s / 1 % 2 + s / 2 % 2 + s / 4 % 2 + s / 8 % 2 + s / 16 % 2 + s / 32 % 2 + s / 64 % 2 + s / 128 % 2 + s / 256 % 2 + s / 512 % 2
def bcI (a0 : Int32) : Int32 := ((((((((a0 - ((zushr a0 1) &&& 1431655765)) &&& 858993459) + ((zushr (a0 - ((zushr a0 1) &&& 1431655765)) 2) &&& 858993459)) + (zushr (((a0 - ((zushr a0 1) &&& 1431655765)) &&& 858993459) + ((zushr (a0 - ((zushr a0 1) &&& 1431655765)) 2) &&& 858993459)) 4)) &&& 252645135) + (zushr (((((a0 - ((zushr a0 1) &&& 1431655765)) &&& 858993459) + ((zushr (a0 - ((zushr a0 1) &&& 1431655765)) 2) &&& 858993459)) + (zushr (((a0 - ((zushr a0 1) &&& 1431655765)) &&& 858993459) + ((zushr (a0 - ((zushr a0 1) &&& 1431655765)) 2) &&& 858993459)) 4)) &&& 252645135) 8)) + (zushr ((((((a0 - ((zushr a0 1) &&& 1431655765)) &&& 858993459) + ((zushr (a0 - ((zushr a0 1) &&& 1431655765)) 2) &&& 858993459)) + (zushr (((a0 - ((zushr a0 1) &&& 1431655765)) &&& 858993459) + ((zushr (a0 - ((zushr a0 1) &&& 1431655765)) 2) &&& 858993459)) 4)) &&& 252645135) + (zushr (((((a0 - ((zushr a0 1) &&& 1431655765)) &&& 858993459) + ((zushr (a0 - ((zushr a0 1) &&& 1431655765)) 2) &&& 858993459)) + (zushr (((a0 - ((zushr a0 1) &&& 1431655765)) &&& 858993459) + ((zushr (a0 - ((zushr a0 1) &&& 1431655765)) 2) &&& 858993459)) 4)) &&& 252645135) 8)) 16)) &&& 63)
theorem bcI_t : ∀ s : Fin 1024, bcI (nI s.val) = nI (pcN s.val) := by decide +kernel
theorem bitCount_s (g : zg) {s : Nat} {M : zM} (hs : s < 1024) : X_J6_bitCount_0f7a4 g [.int (nI s)] M = some (some (.int (nI (pcN s))), M) := by
  rw [x_J6_bitCount_0f7a4_0]
  exact congrArg (fun x => some (some (Value.int x), M)) (bcI_t ⟨s, hs⟩)
/-- the lowest of a set -/
def lowF : Nat → Nat → Nat → Nat
  | 0, _, _ => 0
  | f + 1, t, s => if s / 2 ^ t % 2 = 1 then t else lowF f (t + 1) s
def lowN (s : Nat) : Nat := lowF 10 0 s
theorem low_t : ∀ s : Fin 1024, s.val = 0 ∨ (lowN s.val < 10 ∧ nI s.val &&& (nI s.val - 1) = nI (s.val - 2 ^ lowN s.val) ∧ nI s.val &&& (-(nI s.val)) = nI (2 ^ lowN s.val) ∧ 2 ^ lowN s.val ≤ s.val ∧ pcN s.val = pcN (s.val - 2 ^ lowN s.val) + 1 ∧ s.val / 2 ^ lowN s.val % 2 = 1) := by decide +kernel
theorem low_b : ∀ s : Fin 1024, s.val = 0 ∨ ∀ t : Fin 10, (s.val - 2 ^ lowN s.val) / 2 ^ t.val % 2 = if t.val = lowN s.val then 0 else s.val / 2 ^ t.val % 2 := by decide +kernel
theorem ones_4 (g : zg) {N : zM} (f : Nat) : ∀ s c, s ≤ f → s < 1024 → zX (t_X12_onesOf g) 4 [none, none, some (.int (nI c)), some (.int (nI s))] [] N = some (some (.int (nI (c + pcN s))), N) := by
  induction f with
  | zero =>
    intro s c hs _
    have : s = 0 := by omega
    subst this
    rw [e_X12_onesOf_4, cEq0_s (x := nI 0) rfl, bif_t]
    rfl
  | succ f ih =>
    intro s c hs h10
    rw [e_X12_onesOf_4, cEq0_nI (by omega)]
    by_cases h0 : s = 0
    · subst h0
      rw [decide_eq_true rfl, bif_t]
      rfl
    · rw [decide_eq_false h0, bif_f]
      rcases low_t ⟨s, h10⟩ with e | ⟨e1, e2, e3, e4, e5, e6⟩
      · exact absurd e h0
      · dsimp only at e1 e2 e3 e4 e5
        have hp : 0 < 2 ^ lowN s := Nat.pow_pos (by omega)
        rw [e2, nI_s1, ih (s - 2 ^ lowN s) (c + 1) (by omega) (by omega), e5, show c + 1 + pcN (s - 2 ^ lowN s) = c + (pcN (s - 2 ^ lowN s) + 1) by omega]
theorem ones_s (g : zg) {s : Nat} {N : zM} (hs : s < 1024) : X_X12_onesOf g [.ref 72, .int (nI s)] N = some (some (.int (nI (pcN s))), N) := by
  rw [x_X12_onesOf_0]
  have e := ones_4 g (N := N) s s 0 (Nat.le_refl s) hs
  rw [Nat.zero_add] at e
  exact e
/-- v summed over the set, t and what is behind it (f of them) -/
def vsF (v : Nat → Int32) (s : Nat) : Nat → Nat → Int32
  | 0, _ => 0
  | f + 1, t => (if bt10 s t = true then v t else 0) + vsF v s f (t + 1)
theorem vsF_low {v : Nat → Int32} {s : Nat} (hs : s < 1024) (h0 : ¬ s = 0) (f : Nat) : ∀ t, t + f = 10 → vsF v s f t = vsF v (s - 2 ^ lowN s) f t + (if t ≤ lowN s then v (lowN s) else 0) := by
  have hb : ∀ t, t < 10 → (s - 2 ^ lowN s) / 2 ^ t % 2 = if t = lowN s then 0 else s / 2 ^ t % 2 := by
    rcases low_b ⟨s, hs⟩ with e | e
    · exact absurd e h0
    · exact fun t ht => e ⟨t, ht⟩
  have hl : lowN s < 10 ∧ s / 2 ^ lowN s % 2 = 1 := by
    rcases low_t ⟨s, hs⟩ with e | ⟨e1, _, _, _, _, e6⟩
    · exact absurd e h0
    · exact ⟨e1, e6⟩
  induction f with
  | zero =>
    intro t ht
    rw [if_neg (by omega)]
    exact (Int32.add_zero _).symm
  | succ f ih =>
    intro t ht
    show (if bt10 s t = true then v t else 0) + vsF v s f (t + 1) = (if bt10 (s - 2 ^ lowN s) t = true then v t else 0) + vsF v (s - 2 ^ lowN s) f (t + 1) + _
    rw [ih (t + 1) (by omega)]
    unfold bt10
    rw [hb t (by omega)]
    by_cases e : t = lowN s
    · rw [if_pos e, e, hl.2]
      rw [if_neg (show ¬ lowN s + 1 ≤ lowN s by omega), if_pos (Nat.le_refl _)]
      simp
      rw [Int32.add_comm]
    · rw [if_neg e]
      by_cases e2 : t + 1 ≤ lowN s
      · rw [if_pos e2, if_pos (show t ≤ lowN s by omega), Int32.add_assoc]
      · rw [if_neg e2, if_neg (show ¬ t ≤ lowN s by omega), Int32.add_assoc]
def vsN (v : Nat → Int32) (s : Nat) : Int32 := vsF v s 10 0
theorem vsN_0 (v : Nat → Int32) : vsN v 0 = 0 := by
  have : ∀ f t, vsF v 0 f t = 0 := by
    intro f
    induction f with
    | zero => intro t; rfl
    | succ f ih =>
      intro t
      show (if bt10 0 t = true then v t else 0) + vsF v 0 f (t + 1) = 0
      rw [ih (t + 1)]
      unfold bt10
      rw [Nat.zero_div]
      rfl
  exact this 10 0
theorem vsN_low {v : Nat → Int32} {s : Nat} (hs : s < 1024) (h0 : ¬ s = 0) : vsN v s = vsN v (s - 2 ^ lowN s) + v (lowN s) := by
  have e := vsF_low (v := v) hs h0 10 0 (by omega)
  rw [if_pos (Nat.zero_le _)] at e
  exact e
theorem pow_bits : ∀ (t k : Fin 10), bt10 (2 ^ t.val) k.val = decide (k.val = t.val) := by decide +kernel
theorem vsN_one {v : Nat → Int32} {t : Nat} (ht : t < 10) : vsN v (2 ^ t) = v t := by
  have h2 : 2 ^ t < 1024 := by
    have : ∀ t : Fin 10, 2 ^ t.val < 1024 := by decide
    exact this ⟨t, ht⟩
  have h1 : 0 < 2 ^ t := Nat.pow_pos (by omega)
  have hl : lowN (2 ^ t) = t := by
    have : ∀ t : Fin 10, lowN (2 ^ t.val) = t.val := by decide +kernel
    exact this ⟨t, ht⟩
  rw [vsN_low h2 (by omega), hl, Nat.sub_self, vsN_0, Int32.zero_add]
