/-! PURE ROWS: likely on both sides -/
theorem lN_div {a b : Nat} (ha : a < 2 ^ 63) (h0 : 0 < b) (hb : b < 2 ^ 63) : lN a / lN b = lN (a / b) := by
  have e1 : (lN a).toInt = (a : Int) := lg_ofNat_toInt ha
  have e2 : (lN b).toInt = (b : Int) := lg_ofNat_toInt hb
  have hd : a / b ≤ a := Nat.div_le_self a b
  have e3 : (lN (a / b)).toInt = ((a / b : Nat) : Int) := lg_ofNat_toInt (by omega)
  apply Int64.toInt_inj.mp
  rw [lg_ldiv_nonneg (by rw [e1]; omega) (by rw [e2]; omega), e1, e2, e3]
  rfl
theorem lN_cmp {a b : Nat} (ha : a < 2147483648) (hb : b < 2147483648) : cGt0 (lg_cmp (lN a) (lN b)) = decide (b < a) := by
  unfold cGt0
  rw [decide_eq_decide, lg_cmp_gt]
  exact lN_lt (by omega) (by omega)
/-- which days count for kind k: teller t told then (pc), and told just sd (ps) -/
def pcM (cd ca : Nat → Nat) (t k d : Nat) : Bool := cEq (nI (ca d)) (nI k) && !cEq (nI (cd d / 6 ^ t % 6) - 1) (-1)
def psM (cd ca : Nat → Nat) (t k : Nat) (sd : Int32) (d : Nat) : Bool := pcM cd ca t k d && cEq (nI (cd d / 6 ^ t % 6) - 1) sd
def pcC (c28 c29 : Nat → Int32) (r t k i : Nat) : Bool := cEq (c28 ((r - 1 - i) % 96)) (nI k) && !cEq (c29 (10 * ((r - 1 - i) % 96) + t)) (-1)
def psC (c28 c29 : Nat → Int32) (r t k : Nat) (sd : Int32) (i : Nat) : Bool := pcC c28 c29 r t k i && cEq (c29 (10 * ((r - 1 - i) % 96) + t)) sd
theorem odds_47 (g : zg) {r t k q : Nat} {sd : Int32} {cd ca : Nat → Nat} {cm sd' : Nat → Int32} {N : zM} (h : MR cm sd' r cd ca (N.1 73)) (ht : t < 10) (f : Nat) : ∀ i so cme, i + f = min r 90 → zX (t_X12_oddsOf g) 47 [some (.ref 72), some (.int (nI k)), some (.int (nI q)), some (.int (nI t)), some (.int sd), some (.int (nI so)), some (.int (nI cme)), some (.int (nI i))] [] N = zX (t_X12_oddsOf g) 47 [some (.ref 72), some (.int (nI k)), some (.int (nI q)), some (.int (nI t)), some (.int sd), some (.int (nI (so + cntF (psM cd ca t k sd) f i))), some (.int (nI (cme + cntF (pcM cd ca t k) f i))), some (.int (nI (min r 90)))] [] N := by
  induction f with
  | zero =>
    intro i so cme hi
    rw [show i = min r 90 by omega]
    rfl
  | succ f ih =>
    intro i so cme hi
    have hd := h.2 i (by omega)
    rw [e_X12_oddsOf_47, h.1, cLtT (by omega) (by omega), bif_t, cameOn_s g (by omega) hd.1 hd.2.1 hd.2.2.1, zbI_s, toldOn_s g (by omega) ht hd.1 hd.2.1 hd.2.2.1, zbI_s, toldOn_s g (by omega) ht hd.1 hd.2.1 hd.2.2.1, zbI_s, nI_s1, nI_s1, nI_s1, cntF_s, cntF_s]
    unfold psM pcM
    cases h1 : cEq (nI (ca i)) (nI k)
    · rw [bif_f, ih (i + 1) so cme (by omega)]
      unfold psM pcM
      simp
    · cases h2 : cEq (nI (cd i / 6 ^ t % 6) - 1) (-1)
      · rw [bif_t, bif_f]
        cases h3 : cEq (nI (cd i / 6 ^ t % 6) - 1) sd
        · rw [bif_f, ih (i + 1) so (cme + 1) (by omega)]
          unfold psM pcM
          simp [Nat.add_assoc]
        · rw [bif_t, ih (i + 1) (so + 1) (cme + 1) (by omega)]
          unfold psM pcM
          simp [Nat.add_assoc]
      · rw [bif_t, bif_t, ih (i + 1) so cme (by omega)]
        unfold psM pcM
        simp
/-- does teller t count today -/
def tAct (rn : Nat → Int32) (t : Nat) : Bool := cEq0 (rn (38 + t)) && !cEq (rn (48 + t) - 1) (-1)
def soN (cd ca : Nat → Nat) (rn : Nat → Int32) (r t k : Nat) : Nat := cntF (psM cd ca t k (rn (48 + t) - 1)) (min r 90) 0
def cmN (cd ca : Nat → Nat) (r t k : Nat) : Nat := cntF (pcM cd ca t k) (min r 90) 0
/-- odds of kind k behind the tellers t, t + 1, .. (f of them) -/
def odF (cd ca : Nat → Nat) (rn : Nat → Int32) (r k : Nat) : Nat → Nat → Nat → Nat
  | 0, _, q => q
  | f + 1, t, q => odF cd ca rn r k f (t + 1) (if tAct rn t = true then q * (1 + soN cd ca rn r t k) / (5 + cmN cd ca r t k) else q)
theorem cntF_mono {p q : Nat → Bool} (h : ∀ i, p i = true → q i = true) (f : Nat) : ∀ i, cntF p f i ≤ cntF q f i := by
  induction f with
  | zero => intro i; exact Nat.le_refl 0
  | succ f ih =>
    intro i
    rw [cntF_s, cntF_s]
    have := ih (i + 1)
    have h1 := h i
    by_cases hp : p i = true
    · rw [if_pos hp, if_pos (h1 hp)]; omega
    · rw [if_neg hp]; omega
theorem so_cm {cd ca : Nat → Nat} {rn : Nat → Int32} {r t k : Nat} : soN cd ca rn r t k ≤ cmN cd ca r t k := by
  unfold soN cmN
  exact cntF_mono (fun i hi => by unfold psM at hi; exact (Bool.and_eq_true _ _ ▸ hi).1) _ _
theorem odF_le {cd ca : Nat → Nat} {rn : Nat → Int32} {r k : Nat} (f : Nat) : ∀ t q, odF cd ca rn r k f t q ≤ q := by
  induction f with
  | zero => intro t q; exact Nat.le_refl q
  | succ f ih =>
    intro t q
    refine Nat.le_trans (ih (t + 1) _) ?_
    split
    · have h1 := so_cm (cd := cd) (ca := ca) (rn := rn) (r := r) (t := t) (k := k)
      apply Nat.div_le_of_le_mul
      rw [Nat.mul_comm]
      exact Nat.mul_le_mul_right q (by omega)
    · exact Nat.le_refl q
theorem odds_6 (g : zg) {r n k : Nat} {cd ca : Nat → Nat} {cm sd' : Nat → Int32} {N : zM} (hn : n ≤ 10) (hm : N.1 72 6 = nI n) (h : MR cm sd' r cd ca (N.1 73)) (f : Nat) : ∀ t q, t + f = n → q ≤ 200000 → zX (t_X12_oddsOf g) 6 [some (.ref 72), some (.int (nI k)), some (.int (nI q)), some (.int (nI t)), none, none, none, none] [] N = some (some (.int (nI (odF cd ca (N.1 73) r k f t q))), N) := by
  induction f with
  | zero =>
    intro t q ht hq
    rw [e_X12_oddsOf_6, hm, cLtF (by omega) (by omega), bif_f]
    rfl
  | succ f ih =>
    intro t q ht hq
    have e47 := odds_47 g (k := k) (q := q) (sd := N.1 73 (48 + t) - 1) h (t := t) (by omega) (min r 90) 0 0 0 (by omega)
    rw [Nat.zero_add, Nat.zero_add] at e47
    have h1 : cntF (psM cd ca t k (N.1 73 (48 + t) - 1)) (min r 90) 0 ≤ 90 := Nat.le_trans (cntF_le _ _ _) (by omega)
    have h2 : cntF (pcM cd ca t k) (min r 90) 0 ≤ 90 := Nat.le_trans (cntF_le _ _ _) (by omega)
    have h3 : q * (1 + cntF (psM cd ca t k (N.1 73 (48 + t) - 1)) (min r 90) 0) ≤ 200000 * 91 := Nat.mul_le_mul hq (by omega)
    rw [e_X12_oddsOf_6, hm, cLtT (by omega) (by omega), bif_t, saidN g (by omega), zbI_s, isHereN g (by omega), zbI_s, cEq0_b01, nI_s1]
    show _ = some (some (Value.int (nI (odF cd ca (N.1 73) r k f (t + 1) (if tAct (N.1 73) t = true then q * (1 + soN cd ca (N.1 73) r t k) / (5 + cmN cd ca r t k) else q)))), N)
    unfold tAct
    cases hA : cEq0 (N.1 73 (38 + t))
    · rw [Bool.not_false, bif_t, ih (t + 1) q (by omega) hq]
      rfl
    · rw [Bool.not_true, bif_f]
      cases hB : cEq (N.1 73 (48 + t) - 1) (-1)
      · rw [bif_f, show (some (Value.int 0)) = some (.int (nI 0)) from rfl, e47, e_X12_oddsOf_47, h.1, cLtF (Nat.le_refl _) (by omega), bif_f, show (1 : Int32) + nI (cntF (psM cd ca t k (N.1 73 (48 + t) - 1)) (min r 90) 0) = nI (1 + cntF (psM cd ca t k (N.1 73 (48 + t) - 1)) (min r 90) 0) from nI_ad2 1 _, show (5 : Int32) + nI (cntF (pcM cd ca t k) (min r 90) 0) = nI (5 + cntF (pcM cd ca t k) (min r 90) 0) from nI_ad2 5 _, decide_eq_false (nI_ne0 (by omega) (by omega)), Bool.not_false, bif_t, nI_mul, idiv_nI (by omega) (by omega) (by omega), nI_s1, ih (t + 1) _ (by omega) (by
          have hsc := so_cm (cd := cd) (ca := ca) (rn := N.1 73) (r := r) (t := t) (k := k)
          unfold soN cmN at hsc
          refine Nat.le_trans (Nat.div_le_of_le_mul (n := q) ?_) hq
          rw [Nat.mul_comm]
          exact Nat.mul_le_mul_right q (by omega))]
        rfl
      · rw [bif_t, ih (t + 1) q (by omega) hq]
        rfl
theorem odds_s (g : zg) {r n k : Nat} {cd ca : Nat → Nat} {cm sd' : Nat → Int32} {N : zM} (hn : n ≤ 10) (hm : N.1 72 6 = nI n) (h : MR cm sd' r cd ca (N.1 73)) : X_X12_oddsOf g [.ref 72, .int (nI k)] N = some (some (.int (nI (odF cd ca (N.1 73) r k n 0 200000))), N) := (x_X12_oddsOf_0 g (nI k) N).trans (odds_6 g hn hm h n 0 200000 (by omega) (by omega))

theorem share_12 (g : zg) {A : Nat} {N : zM} (hA : 0 < A) (hA' : A ≤ 1000000) (f : Nat) : ∀ (j X : Nat), j + f = 6 → zX (t_X12_shareOf g) 12 [none, none, some (.int (nI A)), some (.int (nI (X / A))), some (.int (nI (X % A))), some (.int (nI j))] [] N = some (some (.int (nI (X * 10 ^ f / A))), N) := by
  induction f with
  | zero =>
    intro j X hj
    rw [e_X12_shareOf_12, cLtLF (N := 6) (by omega) (by omega), bif_f, Nat.pow_zero, Nat.mul_one]
  | succ f ih =>
    intro j X hj
    have hm := Nat.mod_lt X hA
    have e1 : nI (X % A) * 10 = nI (X % A * 10) := nI_mul (X % A) 10
    have e2 : (10 : Int32) * nI (X / A) = nI (10 * (X / A)) := nI_mul 10 (X / A)
    have hX := Nat.div_add_mod X A
    have e3 : 10 * (X / A) + X % A * 10 / A = X * 10 / A := by
      have : X * 10 = X % A * 10 + A * (10 * (X / A)) := by
        have h2 : X * 10 = (A * (X / A) + X % A) * 10 := by rw [hX]
        rw [h2, Nat.add_mul, Nat.add_comm, Nat.mul_assoc, Nat.mul_comm (X / A) 10]
      rw [this, Nat.add_mul_div_left _ _ hA, Nat.add_comm]
    have e4 : X % A * 10 % A = X * 10 % A := by
      rw [Nat.mod_mul_mod]
    rw [e_X12_shareOf_12, cLtLT (N := 6) (by omega) (by omega), bif_t, decide_eq_false (nI_ne0 hA (by omega)), Bool.not_false, bif_t, bif_t, e1, e2, irem_nI (a := X % A * 10) (by omega) hA (by omega), idiv_nI (by omega) hA (by omega), nI_ad2, nI_s1, e3, e4, ih (j + 1) (X * 10) (by omega), Nat.pow_succ, Nat.mul_assoc, Nat.mul_comm 10]

theorem share_s (g : zg) {A X : Nat} {N : zM} (hA : 0 < A) (hA' : A ≤ 1000000) (hX : X ≤ 1000000) : X_X12_shareOf g [.ref 72, .int (nI X), .int (nI A)] N = some (some (.int (nI (X * 10 ^ 6 / A))), N) := by
  rw [x_X12_shareOf_0, decide_eq_false (nI_ne0 hA (by omega)), Bool.not_false, bif_t, bif_t, irem_nI (by omega) hA (by omega), idiv_nI (by omega) hA (by omega)]
  exact share_12 g hA hA' 6 0 X (by omega)
/-- has someone said -/
def anF (rn : Nat → Int32) : Nat → Nat → Bool
  | 0, _ => false
  | f + 1, t => tAct rn t || anF rn f (t + 1)
theorem said_2 (g : zg) {n : Nat} {N : zM} (hn : n ≤ 10) (hm : N.1 72 6 = nI n) (f : Nat) : ∀ t, t + f = n → zX (t_X12_hasSomeoneSaid g) 2 [some (.ref 72), some (.int (nI t))] [] N = some (some (.int (b01 (anF (N.1 73) f t))), N) := by
  induction f with
  | zero =>
    intro t ht
    rw [e_X12_hasSomeoneSaid_2, hm, cLtF (by omega) (by omega), bif_f]
    rfl
  | succ f ih =>
    intro t ht
    rw [e_X12_hasSomeoneSaid_2, hm, cLtT (by omega) (by omega), bif_t, isHereN g (by omega), zbI_s, saidN g (by omega), zbI_s, cEq0_b01, nI_s1, ih (t + 1) (by omega)]
    show _ = some (some (Value.int (b01 (tAct (N.1 73) t || anF (N.1 73) f (t + 1)))), N)
    unfold tAct
    cases cEq0 (N.1 73 (38 + t)) <;> cases cEq (N.1 73 (48 + t) - 1) (-1) <;> rfl
def suF (q : Nat → Nat) : Nat → Nat → Nat
  | 0, _ => 0
  | f + 1, k => q k + suF q f (k + 1)
def beF (q : Nat → Nat) : Nat → Nat → Nat → Nat
  | 0, _, b => b
  | f + 1, k, b => beF q f (k + 1) (if q b < q k then k else b)
/-- the answer of likely -/
def lkyA (q : Nat → Nat) (an : Bool) (a : Int32) : Int32 := bif inb a (-1) 4 && an then (bif cEq a (-1) then nI (beF q 5 0 0) else (if suF q 5 0 = 0 then 0 else nI (q (zx a) * 10 ^ 6 / suF q 5 0))) else -1
theorem likM_31 (g : zg) {q : Nat → Nat} {a : Int32} {N : zM} (hq : ∀ k, k < 5 → X_X12_oddsOf g [.ref 72, .int (nI k)] N = some (some (.int (nI (q k))), N) ∧ q k ≤ 200000) (f : Nat) : ∀ k su b, k + f = 5 → b < 5 → zX (t_X12_likely g) 31 [some (.ref 72), some (.int a), some (.int (nI su)), some (.int (nI b)), some (.int (nI k))] [] N = zX (t_X12_likely g) 31 [some (.ref 72), some (.int a), some (.int (nI (su + suF q f k))), some (.int (nI (beF q f k b))), some (.int (nI 5))] [] N := by
  induction f with
  | zero =>
    intro k su b hk hb
    rw [show k = 5 by omega]
    rfl
  | succ f ih =>
    intro k su b hk hb
    obtain ⟨o1, o2⟩ := hq k (by omega)
    obtain ⟨o3, o4⟩ := hq b hb
    rw [e_X12_likely_31, cLtLT (N := 5) (by omega) (by omega), bif_t, o1, zbI_s, o1, zbI_s, o3, zbI_s, nI_ad2, nI_s1, cGt_nI (by omega) (by omega)]
    by_cases h : q b < q k
    · rw [decide_eq_true h, bif_t, ih (k + 1) (su + q k) k (by omega) (by omega), Nat.add_assoc]
      show _ = zX (t_X12_likely g) 31 [some (.ref 72), some (.int a), some (.int (nI (su + (q k + suF q f (k + 1))))), some (.int (nI (beF q f (k + 1) (if q b < q k then k else b)))), some (.int (nI 5))] [] N
      rw [if_pos h]
    · rw [decide_eq_false h, bif_f, ih (k + 1) (su + q k) b (by omega) hb, Nat.add_assoc]
      show _ = zX (t_X12_likely g) 31 [some (.ref 72), some (.int a), some (.int (nI (su + (q k + suF q f (k + 1))))), some (.int (nI (beF q f (k + 1) (if q b < q k then k else b)))), some (.int (nI 5))] [] N
      rw [if_neg h]
theorem suF_le {q : Nat → Nat} (hq : ∀ k, k < 5 → q k ≤ 200000) (f : Nat) : ∀ k, k + f = 5 → suF q f k ≤ 200000 * f := by
  induction f with
  | zero => intro k _; exact Nat.le_refl 0
  | succ f ih =>
    intro k hk
    have h1 := hq k (by omega)
    have h2 := ih (k + 1) (by omega)
    show q k + suF q f (k + 1) ≤ _
    omega
theorem inb_m14 {a : Int32} (h : inb a (-1) 4 = true) (hn : ¬ a = -1) : ∃ n, n ≤ 4 ∧ a = nI n := by
  apply inb_ex (b := 4) (by omega)
  unfold inb cLt cGt at h ⊢
  simp only [Bool.and_eq_true, Bool.not_eq_true', decide_eq_false_iff_not] at h ⊢
  refine ⟨?_, h.2⟩
  have h1 := h.1
  rw [Int32.lt_iff_toInt_lt] at h1 ⊢
  have e1 : (-1 : Int32).toInt = -1 := by decide
  have e0 : (0 : Int32).toInt = 0 := by decide
  have h2 : ¬ a.toInt = -1 := by
    intro e
    apply hn
    rw [← Int32.toInt_inj, e, e1]
  omega
theorem likelyM_s (g : zg) (a : Int32) {r n : Nat} {cd ca : Nat → Nat} {cm sd' : Nat → Int32} {N : zM} (hn : n ≤ 10) (hm : N.1 72 6 = nI n) (h : MR cm sd' r cd ca (N.1 73)) : X_X12_likely g [.ref 72, .int a] N = some (some (.int (lkyA (fun k => odF cd ca (N.1 73) r k n 0 200000) (anF (N.1 73) n 0) a)), ((zu N.1 72 0 0), N.2)) := by
  have e73 : zu N.1 72 0 0 73 = N.1 73 := zu_ne (by omega)
  have hm' : (((zu N.1 72 0 0), N.2) : zM).1 72 6 = nI n := by dsimp only; rw [zu_ne2 (by omega)]; exact hm
  have h' : MR cm sd' r cd ca ((((zu N.1 72 0 0), N.2) : zM).1 73) := by dsimp only; rw [e73]; exact h
  have hq : ∀ k, k < 5 → X_X12_oddsOf g [.ref 72, .int (nI k)] (((zu N.1 72 0 0), N.2) : zM) = some (some (.int (nI (odF cd ca (N.1 73) r k n 0 200000))), (((zu N.1 72 0 0), N.2) : zM)) ∧ odF cd ca (N.1 73) r k n 0 200000 ≤ 200000 := by
    intro k _
    have e := odds_s g (k := k) hn hm' h'
    dsimp only at e
    rw [e73] at e
    exact ⟨e, odF_le n 0 200000⟩
  have sa := said_2 g (N := ((zu N.1 72 0 0), N.2)) hn hm' n 0 (by omega)
  dsimp only at sa
  rw [e73] at sa
  unfold lkyA
  rw [x_X12_likely_0, isIn_s, zbI_s, cEq0_b01]
  cases hi : inb a (-1) 4
  · rfl
  · rw [Bool.not_true, bif_f, x_X12_hasSomeoneSaid_0, show zX (t_X12_hasSomeoneSaid g) 2 [some (.ref 72), some (.int 0)] [] (((zu N.1 72 0 0), N.2) : zM) = _ from sa, zbI_s, cEq0_b01]
    cases anF (N.1 73) n 0
    · rfl
    · have e31 := likM_31 g (a := a) (q := fun k => odF cd ca (N.1 73) r k n 0 200000) hq 5 0 0 0 (by omega) (by omega)
      have hsu := suF_le (q := fun k => odF cd ca (N.1 73) r k n 0 200000) (fun k hk => (hq k hk).2) 5 0 (by omega)
      rw [Bool.not_true, bif_f, show zX (t_X12_likely g) 31 [some (.ref 72), some (.int a), some (.int 0), some (.int 0), some (.int 0)] [] (((zu N.1 72 0 0), N.2) : zM) = _ from e31, e_X12_likely_31, show cLt (nI 5) 5 = false from by decide, bif_f, Nat.zero_add, cEq0_nI (by omega), Bool.true_and, bif_t]
      by_cases ha : a = -1
      · rw [cEq_s ha, bif_t, bif_t]
      · obtain ⟨w, hw, rfl⟩ := inb_m14 hi ha
        obtain ⟨o1, o2⟩ := hq w (by omega)
        rw [cEq_n ha, bif_f, bif_f, o1, zbI_s, zx_nI (by omega)]
        by_cases h0 : suF (fun k => odF cd ca (N.1 73) r k n 0 200000) 5 0 = 0
        · rw [decide_eq_true h0, bif_t, if_pos h0]
        · rw [decide_eq_false h0, bif_f, if_neg h0, share_s g (by omega) (by omega) (by omega), zbI_s]
