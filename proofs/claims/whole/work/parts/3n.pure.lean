/-! PURE ROWS: the law reckoned on both sides -/
theorem zu_zr {I : zI} {a i : Nat} {f : Nat → Int32} {v : Int32} : zu (zr I a f) a i v = zr I a (upd1 f i v) := by
  funext b
  by_cases h : b = a
  · subst h; rw [zu_upd, zr_row, zr_row]
  · rw [zu_ne h, zr_ne h, zr_ne h]
theorem zr_zr {I : zI} {a : Nat} {f h : Nat → Int32} : zr (zr I a f) a h = zr I a h := by
  funext b
  by_cases e : b = a
  · subst e; rw [zr_row, zr_row]
  · rw [zr_ne e, zr_ne e, zr_ne e]
theorem zr_self {I : zI} {a : Nat} : zr I a (I a) = I := by
  funext b
  by_cases e : b = a
  · subst e; rw [zr_row]
  · rw [zr_ne e]
theorem zu_zr0 {I : zI} {a i : Nat} {v : Int32} : zu I a i v = zr I a (upd1 (I a) i v) := by
  funext b
  by_cases e : b = a
  · subst e; rw [zr_row, zu_upd]
  · rw [zr_ne e, zu_ne e]
/-- stacks alike: 1 a truth, 2 a number other than 0 -/
def SV (cs rs : Nat → Int32) : List Nat → Prop
  | [] => True
  | t :: s => cs s.length = rs s.length ∧ (t = 1 → cs s.length = 0 ∨ cs s.length = 1) ∧ (t = 2 → ¬ cs s.length = 0) ∧ SV cs rs s
theorem SV_up {cs rs : Nat → Int32} {v w : Int32} : ∀ {s : List Nat} {j : Nat}, SV cs rs s → s.length ≤ j → SV (upd1 cs j v) (upd1 rs j w) s := by
  intro s
  induction s with
  | nil => intro j _ _; exact True.intro
  | cons t s ih =>
    intro j h hj
    obtain ⟨h1, h2, h3, h4⟩ := h
    have hl : s.length ≠ j := by
      have : (t :: s).length = s.length + 1 := rfl
      omega
    refine ⟨?_, ?_, ?_, ih h4 (by have : (t :: s).length = s.length + 1 := rfl; omega)⟩
    · rw [upd1_ne hl, upd1_ne hl]; exact h1
    · rw [upd1_ne hl]; exact h2
    · rw [upd1_ne hl]; exact h3
theorem SV_push {cs rs : Nat → Int32} {s : List Nat} {t : Nat} {v : Int32} (h : SV cs rs s) (h1 : t = 1 → v = 0 ∨ v = 1) (h2 : t = 2 → ¬ v = 0) : SV (upd1 cs s.length v) (upd1 rs s.length v) (t :: s) := by
  refine ⟨?_, ?_, ?_, SV_up h (Nat.le_refl _)⟩
  · rw [upd1_eq, upd1_eq]
  · rw [upd1_eq]; exact h1
  · rw [upd1_eq]; exact h2
/-- the class's code for a code of the reference -/
def cdOf (o k : Nat) : Int32 :=
  if o = 0 then nI k else if o = 1 then -(nI (128 + k)) else if o = 2 then -43 else if o = 3 then -45 else if o = 4 then -42 else if o = 5 then -47 else if o = 6 then -60 else if o = 7 then -61 else if o = 8 then -62 else if o = 9 then -143 else if o = 10 then -142 else -141
/-- what a code does to the kinds of what stands on the stack -/
def ty1 (o k : Nat) (s s' : List Nat) : Prop :=
  (o = 0 ∧ s.length < 32 ∧ k ≤ 9999 ∧ s' = (if k = 0 then 0 else 2) :: s) ∨
  (o = 1 ∧ s.length < 32 ∧ k < 9 ∧ s' = 0 :: s) ∨
  (o = 9 ∧ ∃ r, s = 1 :: r ∧ s' = 1 :: r) ∨
  ((o = 2 ∨ o = 3 ∨ o = 4) ∧ ∃ x y r, s = x :: y :: r ∧ s' = 0 :: r) ∨
  (o = 5 ∧ ∃ y r, s = 2 :: y :: r ∧ s' = 0 :: r) ∨
  ((o = 6 ∨ o = 7 ∨ o = 8) ∧ ∃ x y r, s = x :: y :: r ∧ s' = 1 :: r) ∨
  ((o = 10 ∨ o = 11) ∧ ∃ r, s = 1 :: 1 :: r ∧ s' = 1 :: r)
def tyR (o k : Nat → Nat) : Nat → Nat → List Nat → List Nat → Prop
  | 0, _, s, s' => s = s'
  | n + 1, i, s, s' => ∃ t, ty1 (o i) (k i) s t ∧ tyR o k n (i + 1) t s'
/-- what two stand for, joined -/
def two (o : Nat) (a b : Int32) : Int32 :=
  if o = 2 then a + b else if o = 3 then a - b else if o = 4 then a * b else if o = 5 then a / b else if o = 6 then b01 (cLt a b) else if o = 7 then b01 (cEq a b) else if o = 8 then b01 (cGt a b) else if o = 10 then a &&& b else a ||| b
theorem cif01 {b : Bool} {M : zM} : (bif b then some (some (Value.int 1), M) else some (some (.int 0), M)) = some (some (.int (b01 b)), M) := by cases b <;> rfl
theorem join_s (g : zg) {o : Nat} (a b : Int32) (M : zM) (ho : o = 2 ∨ o = 3 ∨ o = 4 ∨ (o = 5 ∧ ¬ b = 0) ∨ o = 6 ∨ o = 7 ∨ o = 8 ∨ o = 10 ∨ o = 11) (k : Nat) : X_X4_join g [.int (-(cdOf o k)), .int a, .int b] M = some (some (.int (two o a b)), M) := by
  rw [x_X4_join_0]
  rcases ho with rfl | rfl | rfl | ⟨rfl, hb⟩ | rfl | rfl | rfl | rfl | rfl
  · rfl
  · rfl
  · rfl
  · show (bif cEq0 b then _ else (bif !decide (b = 0) then some (some (Value.int (a / b)), M) else none)) = _
    rw [cEq0_n hb, bif_f, decide_eq_false hb]; rfl
  · exact cif01
  · exact cif01
  · exact cif01
  · rfl
  · rfl
theorem twoOf_s (g : zg) {o : Nat} (a b : Int32) (M : zM) (ho : o = 2 ∨ o = 3 ∨ o = 4 ∨ (o = 5 ∧ ¬ b = 0) ∨ o = 6 ∨ o = 7 ∨ o = 8 ∨ ((o = 10 ∨ o = 11) ∧ (a = 0 ∨ a = 1) ∧ (b = 0 ∨ b = 1))) : X_X12_twoOf g [.ref 72, .int (nI o), .int a, .int b] M = some (some (.int (two o a b)), M) := by
  rw [x_X12_twoOf_0]
  rcases ho with rfl | rfl | rfl | ⟨rfl, hb⟩ | rfl | rfl | rfl | ⟨rfl | rfl, ha | ha, hb | hb⟩
  · rfl
  · rfl
  · rfl
  · show (bif !decide (b = 0) then some (some (Value.int (a / b)), M) else none) = _
    rw [decide_eq_false hb]; rfl
  · exact cif01
  · exact cif01
  · exact cif01
  all_goals (subst ha; subst hb; rfl)
theorem neg_neg32 (x : Int32) : - -x = x := Int32.neg_neg
theorem zbT {n N : Nat} (h : n < N) (hn : n < 2147483648) : zb (nI n) N = true := by rw [zb_nI hn, decide_eq_true h]
theorem cLtT {a b : Nat} (h : a < b) (hb : b < 2147483648) : cLt (nI a) (nI b) = true := by rw [cLt_nI (by omega) hb, decide_eq_true h]
theorem cLtF {a b : Nat} (h : b ≤ a) (ha : a < 2147483648) : cLt (nI a) (nI b) = false := by rw [cLt_nI ha (by omega), decide_eq_false (by omega)]
theorem cLtLT {a N : Nat} (h : a < N) (hb : N < 2147483648) : cLt (nI a) (OfNat.ofNat N) = true := cLtT h hb
theorem cLtLF {a N : Nat} (h : N ≤ a) (ha : a < 2147483648) : cLt (nI a) (OfNat.ofNat N) = false := cLtF h ha
theorem rk_num (g : zg) {i e t k : Nat} {M : zM} (hc : M.1 14 i = nI k) (hk : k ≤ 9999) (ht : t < 32) (hi : i < e) (he : e ≤ 400) : zX (t_X4_reckon g) 5 [some (.ref 9), none, some (.int (nI e)), some (.int (nI t)), some (.int (nI i)), none, none] [] M = zX (t_X4_reckon g) 5 [some (.ref 9), none, some (.int (nI e)), some (.int (nI (t + 1))), some (.int (nI (i + 1))), none, none] [] ((zu M.1 15 t (nI k)), M.2) := by
  have hneg : cLt (-(nI k)) 128 = true := by
    unfold cLt
    rw [decide_eq_true_eq, Int32.lt_iff_toInt_lt]
    have h1 : (nI k).toInt = k := nI_toInt (by omega)
    have h2 : (-(nI k)).toInt = -k := by
      rw [Int32.toInt_neg, h1]
      exact Int.bmod_eq_of_le (by omega) (by omega)
    rw [h2]
    have h3 : (128 : Int32).toInt = 128 := by decide
    omega
  rw [e_X4_reckon_5, cLtT hi (by omega), bif_t, cLtLT (N := 400) (by omega) (by omega), bif_t, zbT (by omega) (by omega), bif_t, zx_nI (by omega), hc, hneg, bif_t, cLt0_nI (by omega), bif_f, e_X4_reckon_63, cLtLT (N := 32) ht (by omega), bif_t, cEq0_s rfl, bif_t, zbT ht (by omega), bif_t, zx_nI (by omega), nI_s1, nI_s1]
theorem fact_t : ∀ k : Fin 9, cLt (- -(nI (128 + k.val))) 128 = false ∧ cLt (- -(nI (128 + k.val))) 137 = true ∧ - -(nI (128 + k.val)) - 128 = nI k.val ∧ cLt0 (-(nI (128 + k.val))) = true := by decide +kernel
theorem rk_fact (g : zg) {i e t k : Nat} {M : zM} (hc : M.1 14 i = -(nI (128 + k))) (hk : k < 9) (ht : t < 32) (hi : i < e) (he : e ≤ 400) : zX (t_X4_reckon g) 5 [some (.ref 9), none, some (.int (nI e)), some (.int (nI t)), some (.int (nI i)), none, none] [] M = zX (t_X4_reckon g) 5 [some (.ref 9), none, some (.int (nI e)), some (.int (nI (t + 1))), some (.int (nI (i + 1))), none, none] [] ((zu M.1 15 t (M.1 16 k)), M.2) := by
  obtain ⟨f1, f2, f3, f4⟩ := fact_t ⟨k, hk⟩
  dsimp only at f1 f2 f3 f4
  rw [e_X4_reckon_5, cLtT hi (by omega), bif_t, cLtLT (N := 400) (by omega) (by omega), bif_t, zbT (by omega) (by omega), bif_t, zx_nI (by omega), hc, f1, bif_f, f2, bif_t, f4, bif_t, e_X4_reckon_63, cLtLT (N := 32) ht (by omega), bif_t, cEq0_n (by decide), bif_f, f3, zbT hk (by omega), bif_t, zbT ht (by omega), bif_t, zx_nI (by omega), zx_nI (by omega), nI_s1, nI_s1]
theorem rk_not (g : zg) {i e t : Nat} {M : zM} (hc : M.1 14 i = -143) (ht : t < 32) (hi : i < e) (he : e ≤ 400) : zX (t_X4_reckon g) 5 [some (.ref 9), none, some (.int (nI e)), some (.int (nI (t + 1))), some (.int (nI i)), none, none] [] M = zX (t_X4_reckon g) 5 [some (.ref 9), none, some (.int (nI e)), some (.int (nI (t + 1))), some (.int (nI (i + 1))), none, none] [] ((zu M.1 15 t (1 - M.1 15 t)), M.2) := by
  rw [e_X4_reckon_5, cLtT hi (by omega), bif_t, cLtLT (N := 400) (by omega) (by omega), bif_t, zbT (by omega) (by omega), bif_t, zx_nI (by omega), hc, show cLt (-(-143 : Int32)) 128 = false from by decide, bif_f, show cLt (-(-143 : Int32)) 137 = false from by decide, bif_f, show cLt0 (-143 : Int32) = true from by decide, bif_t, e_X4_reckon_103, show cEq (-(-143 : Int32)) 143 = true from by decide, bif_t, cGt0_nI (by omega), decide_eq_true (by omega), bif_t, nI_p1, zbT ht (by omega), bif_t, bif_t, zx_nI (by omega), nI_s1]
theorem two_t {o k : Nat} (ho : 2 ≤ o ∧ o ≤ 11 ∧ ¬ o = 9) : cLt0 (cdOf o k) = true ∧ cEq (-(cdOf o k)) 143 = false ∧ (cLt (-(cdOf o k)) 128 = true ∨ cLt (-(cdOf o k)) 137 = false) := by
  have h : o = 2 ∨ o = 3 ∨ o = 4 ∨ o = 5 ∨ o = 6 ∨ o = 7 ∨ o = 8 ∨ o = 10 ∨ o = 11 := by omega
  rcases h with rfl | rfl | rfl | rfl | rfl | rfl | rfl | rfl | rfl
  · exact ⟨rfl, rfl, Or.inl (show cLt (-(-43 : Int32)) 128 = true by decide)⟩
  · exact ⟨rfl, rfl, Or.inl (show cLt (-(-45 : Int32)) 128 = true by decide)⟩
  · exact ⟨rfl, rfl, Or.inl (show cLt (-(-42 : Int32)) 128 = true by decide)⟩
  · exact ⟨rfl, rfl, Or.inl (show cLt (-(-47 : Int32)) 128 = true by decide)⟩
  · exact ⟨rfl, rfl, Or.inl (show cLt (-(-60 : Int32)) 128 = true by decide)⟩
  · exact ⟨rfl, rfl, Or.inl (show cLt (-(-61 : Int32)) 128 = true by decide)⟩
  · exact ⟨rfl, rfl, Or.inl (show cLt (-(-62 : Int32)) 128 = true by decide)⟩
  · exact ⟨rfl, rfl, Or.inr (show cLt (-(-142 : Int32)) 137 = false by decide)⟩
  · exact ⟨rfl, rfl, Or.inr (show cLt (-(-141 : Int32)) 137 = false by decide)⟩
theorem nI_m1 (t : Nat) : nI (t + 1) + (-1) = nI t := by
  rw [← nI_p1 t, Int32.sub_eq_add_neg]
theorem rk_two (g : zg) {i e t o k : Nat} {v : Int32} {M : zM} (hc : M.1 14 i = cdOf o k) (ho : 2 ≤ o ∧ o ≤ 11 ∧ ¬ o = 9) (ht : t + 1 < 32) (hi : i < e) (he : e ≤ 400) (hv : X_X4_join g [.int (-(cdOf o k)), .int (M.1 15 t), .int (M.1 15 (t + 1))] M = some (some (.int v), M)) : zX (t_X4_reckon g) 5 [some (.ref 9), none, some (.int (nI e)), some (.int (nI (t + 1 + 1))), some (.int (nI i)), none, none] [] M = zX (t_X4_reckon g) 5 [some (.ref 9), none, some (.int (nI e)), some (.int (nI (t + 1))), some (.int (nI (i + 1))), none, none] [] ((zu M.1 15 t v), M.2) := by
  obtain ⟨f1, f2, f3⟩ := two_t (k := k) ho
  have e1 : zX (t_X4_reckon g) 5 [some (.ref 9), none, some (.int (nI e)), some (.int (nI (t + 1 + 1))), some (.int (nI i)), none, none] [] M = zX (t_X4_reckon g) 103 [some (.ref 9), none, some (.int (nI e)), some (.int (nI (t + 1 + 1))), some (.int (nI i)), some (.int (cdOf o k)), none] [] M := by
    rw [e_X4_reckon_5, cLtT hi (by omega), bif_t, cLtLT (N := 400) (by omega) (by omega), bif_t, zbT (by omega) (by omega), bif_t, zx_nI (by omega), hc, f1]
    rcases f3 with f3 | f3
    · rw [f3]; rfl
    · rw [f3]; cases cLt (-(cdOf o k)) 128 <;> rfl
  have e2 : cGt (nI (t + 1 + 1)) 1 = true := (cGt_nI (a := t + 1 + 1) (b := 1) (by omega) (by omega)).trans (decide_eq_true (by omega))
  rw [e1, e_X4_reckon_103, f2, bif_f, e_X4_reckon_137, e2, bif_t, nI_m1, nI_p1, zbT (by omega) (by omega), bif_t, zbT ht (by omega), bif_t, zx_nI (by omega), zx_nI (by omega), hv, zbI_s, bif_t, nI_s1]
theorem rk_end (g : zg) {e t : Nat} {M : zM} (he : e ≤ 400) : zX (t_X4_reckon g) 5 [some (.ref 9), none, some (.int (nI e)), some (.int (nI t)), some (.int (nI e)), none, none] [] M = some (some (.int (M.1 15 0)), M) := by
  rw [e_X4_reckon_5, cLtF (Nat.le_refl e) (by omega), bif_f]
theorem rn_num (g : zg) {i e t k : Nat} {M : zM} (ho : M.1 86 i = nI 0) (ha : M.1 87 i = nI k) (ht : t < 32) (hi : i < e) (he : e ≤ 400) : zX (t_X12_runs g) 12 [some (.ref 72), some (.int 0), none, some (.int (nI e)), some (.int (nI t)), some (.int (nI i))] [] M = zX (t_X12_runs g) 12 [some (.ref 72), some (.int 0), none, some (.int (nI e)), some (.int (nI (t + 1))), some (.int (nI (i + 1)))] [] ((zu M.1 92 t (nI k)), M.2) := by
  rw [e_X12_runs_12, show (400 : Int32) * 0 + nI e = nI e from by rw [show (400 : Int32) * 0 = 0 from by decide, Int32.zero_add], cLtT hi (by omega), bif_t, zbT (by omega) (by omega), bif_t, zx_nI (by omega), ho, cEq0_s (x := nI 0) rfl, bif_t, e_X12_runs_45, zbT (by omega) (by omega), bif_t, zx_nI (by omega), ho, cEq0_s (x := nI 0) rfl, bif_t, bif_t, zbT (by omega) (by omega), bif_t, zx_nI (by omega), ha, nI_s1, nI_s1]
theorem rn_fact (g : zg) {i e t k : Nat} {M : zM} (ho : M.1 86 i = nI 1) (ha : M.1 87 i = nI k) (hk : k < 9) (ht : t < 32) (hi : i < e) (he : e ≤ 400) : zX (t_X12_runs g) 12 [some (.ref 72), some (.int 0), none, some (.int (nI e)), some (.int (nI t)), some (.int (nI i))] [] M = zX (t_X12_runs g) 12 [some (.ref 72), some (.int 0), none, some (.int (nI e)), some (.int (nI (t + 1))), some (.int (nI (i + 1)))] [] ((zu M.1 92 t (M.1 91 k)), M.2) := by
  rw [e_X12_runs_12, show (400 : Int32) * 0 + nI e = nI e from by rw [show (400 : Int32) * 0 = 0 from by decide, Int32.zero_add], cLtT hi (by omega), bif_t, zbT (by omega) (by omega), bif_t, zx_nI (by omega), ho, cEq0_n (x := nI 1) (by decide), bif_f, bif_t, cEq_s (x := nI 1) (y := 1) rfl, bif_t, e_X12_runs_45, zbT (by omega) (by omega), bif_t, zx_nI (by omega), ho, cEq0_n (x := nI 1) (by decide), bif_f, bif_t, ha, zbT hk (by omega), bif_t, zbT (by omega) (by omega), bif_t, zx_nI (by omega), zx_nI (by omega), nI_s1, nI_s1]
theorem rn_not (g : zg) {i e t : Nat} {M : zM} (ho : M.1 86 i = nI 9) (ht : t < 32) (hi : i < e) (he : e ≤ 400) : zX (t_X12_runs g) 12 [some (.ref 72), some (.int 0), none, some (.int (nI e)), some (.int (nI (t + 1))), some (.int (nI i))] [] M = zX (t_X12_runs g) 12 [some (.ref 72), some (.int 0), none, some (.int (nI e)), some (.int (nI (t + 1))), some (.int (nI (i + 1)))] [] ((zu M.1 92 t (1 - M.1 92 t)), M.2) := by
  rw [e_X12_runs_12, show (400 : Int32) * 0 + nI e = nI e from by rw [show (400 : Int32) * 0 = 0 from by decide, Int32.zero_add], cLtT hi (by omega), bif_t, zbT (by omega) (by omega), bif_t, zx_nI (by omega), ho, cEq0_n (x := nI 9) (by decide), bif_f, bif_t, cEq_n (x := nI 9) (y := 1) (by decide), bif_f, bif_t, cEq_s (x := nI 9) (y := 9) rfl, bif_t, nI_p1, zbT (by omega) (by omega), bif_t, bif_t, zx_nI (by omega), nI_s1]
theorem opn {o : Nat} (ho : 2 ≤ o ∧ o ≤ 11 ∧ ¬ o = 9) : cEq0 (nI o) = false ∧ cEq (nI o) 1 = false ∧ cEq (nI o) 9 = false := by
  have h : o = 2 ∨ o = 3 ∨ o = 4 ∨ o = 5 ∨ o = 6 ∨ o = 7 ∨ o = 8 ∨ o = 10 ∨ o = 11 := by omega
  rcases h with rfl | rfl | rfl | rfl | rfl | rfl | rfl | rfl | rfl <;> (refine ⟨by decide, by decide, by decide⟩)
theorem rn_two (g : zg) {i e t o : Nat} {v : Int32} {M : zM} (ho' : M.1 86 i = nI o) (ho : 2 ≤ o ∧ o ≤ 11 ∧ ¬ o = 9) (ht : t + 1 < 32) (hi : i < e) (he : e ≤ 400) (hv : X_X12_twoOf g [.ref 72, .int (nI o), .int (M.1 92 t), .int (M.1 92 (t + 1))] M = some (some (.int v), M)) : zX (t_X12_runs g) 12 [some (.ref 72), some (.int 0), none, some (.int (nI e)), some (.int (nI (t + 1 + 1))), some (.int (nI i))] [] M = zX (t_X12_runs g) 12 [some (.ref 72), some (.int 0), none, some (.int (nI e)), some (.int (nI (t + 1))), some (.int (nI (i + 1)))] [] ((zu M.1 92 t v), M.2) := by
  obtain ⟨f1, f2, f3⟩ := opn ho
  rw [e_X12_runs_12, show (400 : Int32) * 0 + nI e = nI e from by rw [show (400 : Int32) * 0 = 0 from by decide, Int32.zero_add], cLtT hi (by omega), bif_t, zbT (by omega) (by omega), bif_t, zx_nI (by omega), ho', f1, bif_f, bif_t, f2, bif_f, bif_t, f3, bif_f, bif_t, nI_p1, nI_p1, zbT (by omega) (by omega), bif_t, zbT (by omega) (by omega), bif_t, zx_nI (by omega), zx_nI (by omega), hv, zbI_s, bif_t, nI_s1]
theorem rn_end (g : zg) {e t : Nat} {M : zM} (he : e ≤ 400) : zX (t_X12_runs g) 12 [some (.ref 72), some (.int 0), none, some (.int (nI e)), some (.int (nI t)), some (.int (nI e))] [] M = some (some (.int (M.1 92 0)), M) := by
  rw [e_X12_runs_12, show (400 : Int32) * 0 + nI e = nI e from by rw [show (400 : Int32) * 0 = 0 from by decide, Int32.zero_add], cLtF (Nat.le_refl e) (by omega), bif_f]
