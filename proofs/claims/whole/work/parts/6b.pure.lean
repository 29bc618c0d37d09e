/-! PURE ROWS: the words of the reference -/
def rfW : List (List Nat) := [[116, 101, 108, 108], [101, 114, 114], [98, 108, 97, 109, 101], [119, 104, 101, 110], [111, 114], [97, 110, 100], [110, 111, 116], [115, 111, 114, 116], [102, 101, 97, 114], [98, 114, 105, 98, 101], [103, 108, 97, 115, 115], [107, 105, 110, 100], [115, 116, 97, 110, 100], [100, 97, 121], [109, 105, 110, 105, 115, 116, 101, 114], [111, 102, 102], [102, 111, 114], [114, 105, 115, 101], [102, 97, 108, 108], [111, 110], [110, 97, 109, 101], [103, 108, 117, 101], [102, 114, 101, 101], [114, 101, 99, 97, 108, 108], [116, 97, 112]]
theorem rf_tab : wtL = 32 :: glu rfW := by decide +kernel
theorem wtb_at {i : Nat} {u : List Nat} {k : Nat} (h : wtL.drop i = u) : wtb (i + k) = nI (u.getD k 0) := by
  unfold wtb
  rw [drop_at h]
theorem wt_len : wtL.length = 125 := by decide +kernel
theorem cEq_sym (x y : Int32) : cEq x y = cEq y x := by
  by_cases h : x = y
  · rw [cEq_s h, cEq_s h.symm]
  · rw [cEq_n h, cEq_n (fun e => h e.symm)]
theorem wd_lt {y i : Nat} {u : List Nat} (h : wtL.drop i = y :: u) : y < 256 := by
  have d : ∀ k : Fin 125, wtL.getD k 0 < 256 := by decide +kernel
  have e := drop_at (k := 0) h
  rw [Nat.add_zero] at e
  have hl : i < 125 := by
    have c := congrArg List.length h
    rw [List.length_drop, wt_len] at c
    simp at c
    omega
  have q := d ⟨i, hl⟩
  dsimp only at q
  rw [e] at q
  exact q
/-- on to the next blank -/
theorem wAt_93 (g : zg) {p e : Nat} {a3 : Int32} {M : zM} (h80 : ∀ k, k < 125 → M.1 80 k = wtb k) (u : List Nat) : ∀ (i : Nat) (r : List Nat), ¬ 32 ∈ u → wtL.drop i = u ++ 32 :: r → zX (t_X12_wordAt g) 93 [some (.ref 72), some (.int (nI p)), some (.int (nI e)), some (.int a3), some (.int (nI i)), none] [] M = zX (t_X12_wordAt g) 5 [some (.ref 72), some (.int (nI p)), some (.int (nI e)), some (.int a3), some (.int (nI (i + u.length))), none] [] M := by
  induction u with
  | nil =>
    intro i r hn hd
    have hl : i < 125 := by
      have c := congrArg List.length hd
      rw [List.length_drop, wt_len] at c
      simp at c
      omega
    have e0 := wtb_at (k := 0) hd
    rw [Nat.add_zero] at e0
    have e1 : wtb i = 32 := e0
    rw [e_X12_wordAt_93, zb_nI (by omega), decide_eq_true hl, bif_t, zx_nI (by omega), h80 i hl, e1, show cEq (32 : Int32) 32 = true from cEq_s rfl, bif_t]
    rfl
  | cons y ys ih =>
    intro i r hn hd
    have hl : i < 125 := by
      have c := congrArg List.length hd
      rw [List.length_drop, wt_len] at c
      simp at c
      omega
    have e0 := wtb_at (k := 0) hd
    rw [Nat.add_zero] at e0
    have e1 : wtb i = nI y := e0
    have y2 := wd_lt hd
    have ny : ¬ nI y = 32 := by
      intro c
      have z := congrArg zx c
      rw [zx_nI (by omega)] at z
      exact hn (by rw [show y = 32 from z]; exact List.mem_cons_self)
    rw [e_X12_wordAt_93, zb_nI (by omega), decide_eq_true hl, bif_t, zx_nI (by omega), h80 i hl, e1, cEq_n ny, bif_f, nI_s1, ih (i + 1) r (fun c => hn (List.mem_cons_of_mem y c)) (drop_on (u := [y]) hd), List.length_cons, show i + 1 + ys.length = i + (ys.length + 1) from by omega]
theorem wAt_19 (g : zg) {p e a : Nat} {a3 : Int32} {M : zM} (he : e ≤ 400) (h80 : ∀ k, k < 125 → M.1 80 k = wtb k) (hb : ∀ k, p ≤ k → k < e → ¬ M.1 79 k = 32) (u : List Nat) : ∀ (k : Nat) (r : List Nat), p + k ≤ e → ¬ 32 ∈ u → wtL.drop (a + 1 + k) = u ++ 32 :: r → zX (t_X12_wordAt g) 19 [some (.ref 72), some (.int (nI p)), some (.int (nI e)), some (.int a3), some (.int (nI a)), some (.int (nI k))] [] M = bif decide (e - (p + k) = u.length) && eqs (M.1 79) (p + k) u then some (some (.int a3), M) else zX (t_X12_wordAt g) 93 [some (.ref 72), some (.int (nI p)), some (.int (nI e)), some (.int a3), some (.int (nI (a + 1))), none] [] M := by
  induction u with
  | nil =>
    intro k r hk hn hd
    have hl : a + 1 + k < 125 := by
      have c := congrArg List.length hd
      rw [List.length_drop, wt_len] at c
      simp at c
      omega
    have e0 := wtb_at (k := 0) hd
    rw [Nat.add_zero] at e0
    have e1 : wtb (a + 1 + k) = 32 := e0
    have h60 : zX (t_X12_wordAt g) 60 [some (.ref 72), some (.int (nI p)), some (.int (nI e)), some (.int a3), some (.int (nI a)), some (.int (nI k))] [] M = bif decide (p + k = e) then some (some (.int a3), M) else zX (t_X12_wordAt g) 93 [some (.ref 72), some (.int (nI p)), some (.int (nI e)), some (.int a3), some (.int (nI (a + 1))), none] [] M := by
      rw [e_X12_wordAt_60, nI_ad2, nI_s1, nI_ad2, cEq_nI (by omega) (by omega), zb_nI (by omega), decide_eq_true hl, zx_nI (by omega), h80 _ hl, e1, show cEq (32 : Int32) 32 = true from cEq_s rfl, bif_t, bif_t]
    rw [e_X12_wordAt_19, h60, nI_ad2, nI_s1, nI_ad2, cLt_nI (by omega) (by omega), zb_nI (by omega), decide_eq_true hl, zx_nI (by omega), h80 _ hl, e1]
    by_cases h : p + k < e
    · rw [decide_eq_true h, bif_t, bif_t, zb_nI (by omega), decide_eq_true (by omega), bif_t, zx_nI (by omega), cEq_n (fun c => hb (p + k) (by omega) h c.symm), bif_f, decide_eq_false (show ¬ p + k = e from by omega), bif_f, decide_eq_false (show ¬ e - (p + k) = ([] : List Nat).length from by simp; omega), Bool.false_and, bif_f]
    · rw [decide_eq_false h, bif_f, decide_eq_true (show p + k = e from by omega), bif_t, decide_eq_true (show e - (p + k) = ([] : List Nat).length from by simp; omega)]
      rfl
  | cons y ys ih =>
    intro k r hk hn hd
    have hl : a + 1 + k < 125 := by
      have c := congrArg List.length hd
      rw [List.length_drop, wt_len] at c
      simp at c
      omega
    have e0 := wtb_at (k := 0) hd
    rw [Nat.add_zero] at e0
    have e1 : wtb (a + 1 + k) = nI y := e0
    have y2 := wd_lt hd
    have ny : ¬ nI y = 32 := by
      intro c
      have z := congrArg zx c
      rw [zx_nI (by omega)] at z
      exact hn (by rw [show y = 32 from z]; exact List.mem_cons_self)
    have h60 : zX (t_X12_wordAt g) 60 [some (.ref 72), some (.int (nI p)), some (.int (nI e)), some (.int a3), some (.int (nI a)), some (.int (nI k))] [] M = zX (t_X12_wordAt g) 93 [some (.ref 72), some (.int (nI p)), some (.int (nI e)), some (.int a3), some (.int (nI (a + 1))), none] [] M := by
      rw [e_X12_wordAt_60, nI_ad2, nI_s1, nI_ad2, cEq_nI (by omega) (by omega), zb_nI (by omega), decide_eq_true hl, zx_nI (by omega), h80 _ hl, e1, cEq_n ny, bif_t, bif_f]
      cases decide (p + k = e) <;> rfl
    rw [e_X12_wordAt_19, h60, nI_ad2, nI_s1, nI_ad2, nI_s1, cLt_nI (by omega) (by omega), zb_nI (by omega), decide_eq_true hl, zx_nI (by omega), h80 _ hl, e1]
    by_cases h : p + k < e
    · rw [decide_eq_true h, bif_t, bif_t, zb_nI (by omega), decide_eq_true (by omega), bif_t, zx_nI (by omega), ih (k + 1) r (by omega) (fun c => hn (List.mem_cons_of_mem y c)) (by rw [show a + 1 + (k + 1) = a + 1 + k + 1 from by omega]; exact drop_on (u := [y]) hd), cEq_sym]
      show _ = bif decide (e - (p + k) = (y :: ys).length) && (cEq (M.1 79 (p + k)) (nI y) && eqs (M.1 79) (p + k + 1) ys) then _ else _
      rw [show decide (e - (p + k) = (y :: ys).length) = decide (e - (p + (k + 1)) = ys.length) from by rw [List.length_cons]; congr 1; simp; omega, show p + (k + 1) = p + k + 1 from by omega]
      cases cEq (M.1 79 (p + k)) (nI y) <;> cases decide (e - (p + k + 1) = ys.length) <;> rfl
    · rw [decide_eq_false h, bif_f, decide_eq_false (show ¬ e - (p + k) = (y :: ys).length from by rw [List.length_cons]; omega), Bool.false_and, bif_f]
theorem wAt_5 (g : zg) {p e : Nat} {M : zM} (he : e ≤ 400) (hpe : p ≤ e) (h80 : ∀ k, k < 125 → M.1 80 k = wtb k) (hb : ∀ k, p ≤ k → k < e → ¬ M.1 79 k = 32) : ∀ (ws : List (List Nat)) (idx a : Nat) (a3 : Int32), a3 + 1 = nI idx → (∀ x, x ∈ ws → ¬ 32 ∈ x) → a < 125 → wtL.drop (a + 1) = glu ws → zX (t_X12_wordAt g) 5 [some (.ref 72), some (.int (nI p)), some (.int (nI e)), some (.int a3), some (.int (nI a)), none] [] M = match fiW (M.1 79) p (e - p) idx ws with
    | none => some (some (.int (-1)), M)
    | some k => some (some (.int (nI k)), M) := by
  intro ws
  induction ws with
  | nil =>
    intro idx a a3 h3 hn ha hd
    have c := congrArg List.length hd
    rw [List.length_drop, wt_len] at c
    simp [glu] at c
    rw [e_X12_wordAt_5, clF (c := 124) (n := 124) rfl (by omega) (by omega), bif_f]
    rfl
  | cons x xs ih =>
    intro idx a a3 h3 hn ha hd
    have hd1 : wtL.drop (a + 1) = x ++ 32 :: glu xs := hd
    have hx : ¬ 32 ∈ x := hn x List.mem_cons_self
    have c := congrArg List.length hd1
    rw [List.length_drop, wt_len, List.length_append, List.length_cons] at c
    have hd2 : wtL.drop (a + 1 + x.length + 1) = glu xs := drop_on (u := [32]) (drop_on hd1)
    rw [e_X12_wordAt_5, clT (c := 124) (n := 124) rfl (by omega) (by omega), bif_t, h3]
    have q := wAt_19 g (p := p) (e := e) (a := a) (a3 := nI idx) (M := M) he h80 hb x 0 (glu xs) (by omega) hx (by rw [Nat.add_zero]; exact hd1)
    rw [Nat.add_zero] at q
    refine q.trans ?_
    rw [fiW_c, wAt_93 g h80 x (a + 1) (glu xs) hx hd1, ih (idx + 1) (a + 1 + x.length) (nI idx) (nI_s1 idx) (fun y hy => hn y (List.mem_cons_of_mem x hy)) (by omega) hd2]
    cases hq : (decide (e - p = x.length) && eqs (M.1 79) p x)
    · rw [bif_f, if_neg (by decide)]
    · rw [bif_t, if_pos rfl]
theorem wordM_s (g : zg) {p e : Nat} {M : zM} (he : e ≤ 400) (hpe : p ≤ e) (h80 : ∀ k, k < 125 → M.1 80 k = wtb k) (hb : ∀ k, p ≤ k → k < e → ¬ M.1 79 k = 32) : X_X12_wordAt g [.ref 72, .int (nI p), .int (nI e)] M = match fiW (M.1 79) p (e - p) 0 rfW with
    | none => some (some (.int (-1)), M)
    | some k => some (some (.int (nI k)), M) := by
  rw [x_X12_wordAt_0]
  exact wAt_5 g he hpe h80 hb rfW 0 0 (-1) rfl (by decide +kernel) (by omega) (by rw [rf_tab]; rfl)
