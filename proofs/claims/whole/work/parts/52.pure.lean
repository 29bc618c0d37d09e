/-! PURE ROWS: sets, bit by bit -/
theorem and_not32 (x y : Int32) : x &&& (y ^^^ (-1)) = x ^^^ (x &&& y) := by
  apply Int32.toBitVec_inj.mp
  show x.toBitVec &&& (y.toBitVec ^^^ (-1 : Int32).toBitVec) = x.toBitVec ^^^ (x.toBitVec &&& y.toBitVec)
  have e : (-1 : Int32).toBitVec = BitVec.allOnes 32 := by decide
  rw [e]
  apply BitVec.eq_of_getLsbD_eq
  intro i hi
  rw [BitVec.getLsbD_and, BitVec.getLsbD_xor, BitVec.getLsbD_xor, BitVec.getLsbD_and, BitVec.getLsbD_allOnes, decide_eq_true hi]
  cases x.toBitVec.getLsbD i <;> cases y.toBitVec.getLsbD i <;> rfl
/-- a without b -/
def dif (a b : Nat) : Nat := a ^^^ (a &&& b)
theorem dif_s (a b : Nat) : nI a &&& (nI b ^^^ (-1)) = nI (dif a b) := by
  rw [and_not32, nI_and, nI_xor]
  rfl
theorem bt_tb (a t : Nat) : bt10 a t = a.testBit t := by
  unfold bt10
  rw [Nat.testBit_eq_decide_div_mod_eq]
theorem dif_bt (a b t : Nat) : bt10 (dif a b) t = (bt10 a t && !bt10 b t) := by
  rw [bt_tb, bt_tb, bt_tb]
  unfold dif
  rw [Nat.testBit_xor, Nat.testBit_and]
  cases a.testBit t <;> cases b.testBit t <;> rfl
theorem and_bt (a b t : Nat) : bt10 (a &&& b) t = (bt10 a t && bt10 b t) := by
  rw [bt_tb, bt_tb, bt_tb, Nat.testBit_and]
theorem or_bt (a b t : Nat) : bt10 (a ||| b) t = (bt10 a t || bt10 b t) := by
  rw [bt_tb, bt_tb, bt_tb, Nat.testBit_or]
theorem bt_big {a t k : Nat} (h : a < 2 ^ k) (hk : k ≤ t) : bt10 a t = false := by
  rw [bt_tb]
  exact Nat.testBit_lt_two_pow (Nat.lt_of_lt_of_le h (Nat.pow_le_pow_right (by omega) hk))
theorem bt_ext {a b : Nat} (h : ∀ t, bt10 a t = bt10 b t) : a = b := by
  apply Nat.eq_of_testBit_eq
  intro t
  rw [← bt_tb, ← bt_tb]
  exact h t
theorem dif_lt {a b : Nat} (h : a < 1024) : dif a b < 1024 := Nat.xor_lt_two_pow (n := 10) h (Nat.lt_of_le_of_lt Nat.and_le_left h)
theorem dif_0 {a b : Nat} : dif a b = 0 ↔ ∀ t, bt10 a t = true → bt10 b t = true := by
  constructor
  · intro h t ht
    have e := dif_bt a b t
    rw [h, ht] at e
    cases hb : bt10 b t with
    | true => rfl
    | false =>
      rw [hb] at e
      have : bt10 0 t = false := by
        unfold bt10
        rw [Nat.zero_div]
        rfl
      rw [this] at e
      cases e
  · intro h
    apply bt_ext
    intro t
    rw [dif_bt]
    have : bt10 0 t = false := by
      unfold bt10
      rw [Nat.zero_div]
      rfl
    rw [this]
    cases ha : bt10 a t with
    | false => rfl
    | true => rw [h t ha]; rfl
def bN (a t : Nat) : Nat := if bt10 a t = true then 1 else 0
theorem bN_d (a t : Nat) : bN a t = a / 2 ^ t % 2 := by
  unfold bN bt10
  have := Nat.mod_lt (a / 2 ^ t) (show 0 < 2 by omega)
  by_cases h : a / 2 ^ t % 2 = 1
  · rw [h]; rfl
  · rw [decide_eq_false h, if_neg (by decide)]
    omega
theorem pc_bN (a : Nat) : pcN a = bN a 0 + bN a 1 + bN a 2 + bN a 3 + bN a 4 + bN a 5 + bN a 6 + bN a 7 + bN a 8 + bN a 9 := by
  simp only [bN_d]
  rfl
theorem bN_le {a b t : Nat} (h : bt10 a t = true → bt10 b t = true) : bN a t ≤ bN b t := by
  unfold bN
  cases ha : bt10 a t with
  | false => simp
  | true => rw [h ha]; exact Nat.le_refl _
/-- a subset has no more, and as many only if it is the same -/
theorem pc_sub {a b : Nat} (ha : a < 1024) (hb : b < 1024) (h : ∀ t, bt10 a t = true → bt10 b t = true) : pcN a ≤ pcN b ∧ (pcN a = pcN b → a = b) := by
  have h0 := bN_le (h 0); have h1 := bN_le (h 1); have h2 := bN_le (h 2); have h3 := bN_le (h 3); have h4 := bN_le (h 4); have h5 := bN_le (h 5); have h6 := bN_le (h 6); have h7 := bN_le (h 7); have h8 := bN_le (h 8); have h9 := bN_le (h 9)
  rw [pc_bN, pc_bN]
  refine ⟨by omega, fun e => ?_⟩
  have back : ∀ t, bN a t = bN b t → bt10 a t = bt10 b t := by
    intro t ht
    unfold bN at ht
    cases h1 : bt10 a t <;> cases h2 : bt10 b t <;> rw [h1, h2] at ht <;> first | rfl | cases ht
  apply bt_ext
  intro t
  by_cases ht : t < 10
  · have hk : t = 0 ∨ t = 1 ∨ t = 2 ∨ t = 3 ∨ t = 4 ∨ t = 5 ∨ t = 6 ∨ t = 7 ∨ t = 8 ∨ t = 9 := by omega
    rcases hk with rfl | rfl | rfl | rfl | rfl | rfl | rfl | rfl | rfl | rfl <;> (apply back; omega)
  · rw [bt_big (k := 10) ha (by omega), bt_big (k := 10) hb (by omega)]
theorem sub_le {a b : Nat} (h : ∀ t, bt10 a t = true → bt10 b t = true) : a ≤ b := by
  have e : a &&& b = a := by
    apply bt_ext
    intro t
    rw [and_bt]
    cases ha : bt10 a t with
    | false => rfl
    | true => rw [h t ha]; rfl
  rw [← e]
  exact Nat.and_le_right
/-- w summed over the set -/
def wsF (w : Nat → Nat) (s : Nat) : Nat → Nat → Nat
  | 0, _ => 0
  | f + 1, t => (if bt10 s t = true then w t else 0) + wsF w s f (t + 1)
def wsN (w : Nat → Nat) (s : Nat) : Nat := wsF w s 10 0
theorem ws_vs (w : Nat → Nat) (s : Nat) (f : Nat) : ∀ t, vsF (fun t => nI (w t)) s f t = nI (wsF w s f t) := by
  induction f with
  | zero => intro t; rfl
  | succ f ih =>
    intro t
    show (if bt10 s t = true then nI (w t) else 0) + vsF (fun t => nI (w t)) s f (t + 1) = nI ((if bt10 s t = true then w t else 0) + wsF w s f (t + 1))
    rw [ih, ← nI_ad2]
    split <;> rfl
theorem wsF_le {w : Nat → Nat} {s : Nat} (hw : ∀ t, w t ≤ 10) (f : Nat) : ∀ t, wsF w s f t ≤ 10 * f := by
  induction f with
  | zero => intro t; exact Nat.le_refl 0
  | succ f ih =>
    intro t
    have h1 := ih (t + 1)
    have h2 := hw t
    show (if bt10 s t = true then w t else 0) + wsF w s f (t + 1) ≤ _
    split <;> omega
theorem wsF_cg {w w' : Nat → Nat} {s s' : Nat} (f : Nat) : ∀ t, (∀ k, t ≤ k → k < t + f → (if bt10 s k = true then w k else 0) = (if bt10 s' k = true then w' k else 0)) → wsF w s f t = wsF w' s' f t := by
  induction f with
  | zero => intro t _; rfl
  | succ f ih =>
    intro t h
    show (if bt10 s t = true then w t else 0) + wsF w s f (t + 1) = (if bt10 s' t = true then w' t else 0) + wsF w' s' f (t + 1)
    rw [h t (Nat.le_refl t) (by omega), ih (t + 1) (fun k h1 h2 => h k (by omega) (by omega))]
theorem wsF_more {w : Nat → Nat} {s : Nat} (f m : Nat) : ∀ t, (∀ k, t + f ≤ k → k < t + f + m → bt10 s k = false) → wsF w s (f + m) t = wsF w s f t := by
  induction f with
  | zero =>
    intro t h
    rw [Nat.zero_add]
    have : ∀ m t, (∀ k, t ≤ k → k < t + m → bt10 s k = false) → wsF w s m t = 0 := by
      intro m
      induction m with
      | zero => intro t _; rfl
      | succ m ih =>
        intro t h
        show (if bt10 s t = true then w t else 0) + wsF w s m (t + 1) = 0
        rw [h t (Nat.le_refl t) (by omega), if_neg (by decide), ih (t + 1) (fun k h1 h2 => h k (by omega) (by omega))]
    exact this m t (fun k h1 h2 => h k (by omega) (by omega))
  | succ f ih =>
    intro t h
    rw [show f + 1 + m = f + m + 1 by omega]
    show (if bt10 s t = true then w t else 0) + wsF w s (f + m) (t + 1) = (if bt10 s t = true then w t else 0) + wsF w s f (t + 1)
    rw [ih (t + 1) (fun k h1 h2 => h k (by omega) (by omega))]
theorem seF_set {p : Nat → Bool} {n : Nat} (hn : n ≤ 10) : seF p n 0 < 2 ^ n ∧ seF p n 0 < 1024 ∧ ∀ k, bt10 (seF p n 0) k = (decide (k < n) && p k) := by
  have h := seF_lt (p := p) n 0 (by omega)
  rw [Nat.zero_add, Nat.pow_zero] at h
  have h1 : 0 < 2 ^ n := Nat.pow_pos (by omega)
  have h2 : 2 ^ n ≤ 2 ^ 10 := Nat.pow_le_pow_right (by omega) hn
  have h3 : (2 : Nat) ^ 10 = 1024 := by decide
  refine ⟨by omega, by omega, fun k => ?_⟩
  rw [seF_bit n 0 p (by omega) k, Nat.zero_add]
  simp
theorem here_4 (g : zg) {n : Nat} {N : zM} (hn : n ≤ 10) (hm : N.1 72 6 = nI n) (f : Nat) : ∀ t acc, t + f = n → acc < 2 ^ t → zX (t_X12_here g) 4 [some (.ref 72), some (.int (nI acc)), some (.int (nI t))] [] N = some (some (.int (nI (acc + seF (fun t => cEq0 (N.1 73 (38 + t))) f t))), N) := by
  induction f with
  | zero =>
    intro t acc ht _
    rw [e_X12_here_4, hm, cLtF (by omega) (by omega), bif_f]
    rfl
  | succ f ih =>
    intro t acc ht ha
    have hp : 2 ^ (t + 1) = 2 ^ t * 2 := Nat.pow_succ ..
    rw [e_X12_here_4, hm, cLtT (by omega) (by omega), bif_t, isHereN g (by omega), zbI_s, cEq0_b01, nI_s1, one_sh (by omega), nI_or, orF ha]
    show _ = some (some (Value.int (nI (acc + ((if cEq0 (N.1 73 (38 + t)) = true then 2 ^ t else 0) + seF (fun t => cEq0 (N.1 73 (38 + t))) f (t + 1))))), N)
    cases cEq0 (N.1 73 (38 + t))
    · rw [Bool.not_false, bif_t, ih (t + 1) acc (by omega) (by omega), if_neg (by decide), Nat.zero_add]
    · rw [Bool.not_true, bif_f, ih (t + 1) (acc + 2 ^ t) (by omega) (by omega), if_pos rfl, Nat.add_assoc]
/-- those who serve, as a set -/
def hereN (rn : Nat → Int32) (n : Nat) : Nat := seF (fun t => cEq0 (rn (38 + t))) n 0
theorem here_s (g : zg) {n : Nat} {N : zM} (hn : n ≤ 10) (hm : N.1 72 6 = nI n) : X_X12_here g [.ref 72] N = some (some (.int (nI (hereN (N.1 73) n))), N) := by
  have e := here_4 g hn hm n 0 0 (by omega) (by omega)
  rw [Nat.zero_add] at e
  exact (x_X12_here_0 g N).trans e
theorem serv_4 (g : zg) {n : Nat} {J : zI} {M : zM} (hc : CRJ n 7 8 M.1 J) (f : Nat) : ∀ t acc, t + f = n → acc < 2 ^ t → zX (t_X3_servingSet g) 4 [some (.ref 7), some (.int (nI acc)), some (.int (nI t))] [] M = some (some (.int (nI (acc + seF (fun t => cEq0 (J 73 (38 + t))) f t))), M) := by
  have h7 : CO 7 8 := Or.inl ⟨rfl, rfl⟩
  obtain ⟨hn, hc2, _⟩ := CR_f hc
  induction f with
  | zero =>
    intro t acc ht _
    rw [e_X3_servingSet_4, hc2, cLtF (by omega) (by omega), bif_f]
    rfl
  | succ f ih =>
    intro t acc ht ha
    have hp : 2 ^ (t + 1) = 2 ^ t * 2 := Nat.pow_succ ..
    rw [e_X3_servingSet_4, hc2, cLtT (by omega) (by omega), bif_t, servX g h7 hn hc2 (by omega), zbI_s, CR_gone hc (by omega), cEq0_b01, nI_s1, one_sh (by omega), nI_or, orF ha]
    show _ = some (some (Value.int (nI (acc + ((if cEq0 (J 73 (38 + t)) = true then 2 ^ t else 0) + seF (fun t => cEq0 (J 73 (38 + t))) f (t + 1))))), M)
    cases cEq0 (J 73 (38 + t))
    · rw [Bool.not_false, bif_t, ih (t + 1) acc (by omega) (by omega), if_neg (by decide), Nat.zero_add]
    · rw [Bool.not_true, bif_f, ih (t + 1) (acc + 2 ^ t) (by omega) (by omega), if_pos rfl, Nat.add_assoc]
theorem servSet_s (g : zg) {n : Nat} {J : zI} {M : zM} (hc : CRJ n 7 8 M.1 J) : X_X3_servingSet g [.ref 7] M = some (some (.int (nI (hereN (J 73) n))), M) := by
  have e := serv_4 g hc n 0 0 (by omega) (by omega)
  rw [Nat.zero_add] at e
  exact (x_X3_servingSet_0 g M).trans e
