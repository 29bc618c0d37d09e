/-! PURE ROWS: the words of the class, its signs -/
/-- the words of law, rounds, agenda; a blank behind each -/
def stW (j : Nat) : List (List Nat) := if j = 0 then [[115, 111, 114, 116], [102, 101, 97, 114], [98, 114, 105, 98, 101], [103, 108, 97, 115, 115], [107, 105, 110, 100], [115, 116, 97, 110, 100], [100, 97, 121], [109, 105, 110, 105, 115, 116, 101, 114], [111, 102, 102], [116, 101, 108, 108], [101, 114, 114], [98, 108, 97, 109, 101], [119, 104, 101, 110], [111, 114], [97, 110, 100], [110, 111, 116]] else if j = 1 then [[102, 111, 114], [114, 105, 115, 101], [102, 97, 108, 108]] else [[110, 97, 109, 101], [98, 114, 105, 98, 101], [103, 108, 117, 101], [102, 114, 101, 101], [114, 101, 99, 97, 108, 108], [116, 97, 112], [111, 110]]
def glu (ws : List (List Nat)) : List Nat := match ws with
  | [] => []
  | x :: xs => x ++ 32 :: glu xs
theorem chk_s {k n : Nat} (hn : n < 2147483648) (hk : k < n) (M : zM) : X_chk [.int (nI k), .int (nI n)] M = some (none, M) := by
  unfold X_chk
  dsimp only
  rw [cLt0_nI (by omega), cLtT hk hn]
  rfl
theorem len0_s (g : zg) (M : zM) : X_J0_length_8abf5 g [.ref 1000] M = some (some (.int (nI 81)), M) := by
  rw [x_J0_length_8abf5_0, x_J0_coder_7d493_0, zbI_s]
  rfl
theorem chr0_s (g : zg) {k : Nat} (hk : k < 81) (M : zM) : X_J0_charAt_5068e g [.ref 1000, .int (nI k)] M = some (some (.int (nI ((glu (stW 0)).getD k 0))), M) := by
  have d : ∀ k : Fin 81, (zNr .char ((((zbt 1010 k) &&& 255).toUInt32 % 65536).toInt32) = true) ∧ (((zbt 1010 k) &&& 255).toUInt32 % 65536).toInt32 = nI ((glu (stW 0)).getD k 0) := by decide +kernel
  have d1 := (d ⟨k, hk⟩).1
  have d2 := (d ⟨k, hk⟩).2
  dsimp only at d1 d2
  rw [x_J0_charAt_5068e_0, x_J0_isLatin1_aae02_0_1, zbI_s, show cEq0 1 = false from rfl, bif_f, x_J1_charAt_3b067_0, show zln 1010 = 81 from by decide +kernel, chk_s (by omega) hk, zbV_s, zb_nI (by omega), decide_eq_true hk, bif_t, zx_nI (by omega), d1, bif_t, zbI_s, d1, bif_t, d2]
theorem len1_s (g : zg) (M : zM) : X_J0_length_8abf5 g [.ref 1001] M = some (some (.int (nI 14)), M) := by
  rw [x_J0_length_8abf5_0_1, x_J0_coder_7d493_0_1, zbI_s]
  rfl
theorem chr1_s (g : zg) {k : Nat} (hk : k < 14) (M : zM) : X_J0_charAt_5068e g [.ref 1001, .int (nI k)] M = some (some (.int (nI ((glu (stW 1)).getD k 0))), M) := by
  have d : ∀ k : Fin 14, (zNr .char ((((zbt 1011 k) &&& 255).toUInt32 % 65536).toInt32) = true) ∧ (((zbt 1011 k) &&& 255).toUInt32 % 65536).toInt32 = nI ((glu (stW 1)).getD k 0) := by decide +kernel
  have d1 := (d ⟨k, hk⟩).1
  have d2 := (d ⟨k, hk⟩).2
  dsimp only at d1 d2
  rw [x_J0_charAt_5068e_0_1, x_J0_isLatin1_aae02_0_2, zbI_s, show cEq0 1 = false from rfl, bif_f, x_J1_charAt_3b067_0_1, show zln 1011 = 14 from by decide +kernel, chk_s (by omega) hk, zbV_s, zb_nI (by omega), decide_eq_true hk, bif_t, zx_nI (by omega), d1, bif_t, zbI_s, d1, bif_t, d2]
theorem len2_s (g : zg) (M : zM) : X_J0_length_8abf5 g [.ref 1002] M = some (some (.int (nI 35)), M) := by
  rw [x_J0_length_8abf5_0_2, x_J0_coder_7d493_0_2, zbI_s]
  rfl
theorem chr2_s (g : zg) {k : Nat} (hk : k < 35) (M : zM) : X_J0_charAt_5068e g [.ref 1002, .int (nI k)] M = some (some (.int (nI ((glu (stW 2)).getD k 0))), M) := by
  have d : ∀ k : Fin 35, (zNr .char ((((zbt 1012 k) &&& 255).toUInt32 % 65536).toInt32) = true) ∧ (((zbt 1012 k) &&& 255).toUInt32 % 65536).toInt32 = nI ((glu (stW 2)).getD k 0) := by decide +kernel
  have d1 := (d ⟨k, hk⟩).1
  have d2 := (d ⟨k, hk⟩).2
  dsimp only at d1 d2
  rw [x_J0_charAt_5068e_0_2, x_J0_isLatin1_aae02_0_3, zbI_s, show cEq0 1 = false from rfl, bif_f, x_J1_charAt_3b067_0_2, show zln 1012 = 35 from by decide +kernel, chk_s (by omega) hk, zbV_s, zb_nI (by omega), decide_eq_true hk, bif_t, zx_nI (by omega), d1, bif_t, zbI_s, d1, bif_t, d2]
/-- the sign at a place spells this -/
def eqs (f : Nat → Int32) : Nat → List Nat → Bool
  | _, [] => true
  | q, x :: xs => cEq (f q) (nI x) && eqs f (q + 1) xs
/-- which word of these, counted on, is spelt -/
def fiW (f : Nat → Int32) (p len : Nat) : Nat → List (List Nat) → Option Nat
  | _, [] => none
  | i, x :: xs => if (decide (len = x.length) && eqs f p x) = true then some i else fiW f p len (i + 1) xs
theorem fiW_c {f : Nat → Int32} {p len i : Nat} {x : List Nat} {xs : List (List Nat)} : fiW f p len i (x :: xs) = if (decide (len = x.length) && eqs f p x) = true then some i else fiW f p len (i + 1) xs := rfl
theorem drop_at {S u : List Nat} {i k : Nat} (h : S.drop i = u) : S.getD (i + k) 0 = u.getD k 0 := by
  rw [← h, List.getD_eq_getElem?_getD, List.getD_eq_getElem?_getD, List.getElem?_drop]
theorem drop_on {S u v : List Nat} {i : Nat} (h : S.drop i = u ++ v) : S.drop (i + u.length) = v := by
  rw [← List.drop_drop, h, List.drop_left]
/-- a text of words that is gone through -/
theorem scanW {α : Type} {S : List Nat} {Lp : Nat → Nat → Nat → α} {len : Nat} {no : α} {ye : Nat → α} {f : Nat → Int32} {p : Nat}
    (h1 : ∀ idx st w r, S.drop st = w ++ 32 :: r → st + w.length < S.length → Lp idx st (st + w.length) = bif decide (w.length = len) then (bif eqs f p w then ye idx else Lp (idx + 1) (st + w.length + 1) (st + w.length + 1)) else Lp (idx + 1) (st + w.length + 1) (st + w.length + 1))
    (h3 : ∀ idx st i, st ≤ i → i < S.length → ¬ S.getD i 0 = 32 → Lp idx st i = Lp idx st (i + 1))
    (h4 : ∀ idx st i, S.length ≤ i → i ≤ S.length → Lp idx st i = no) :
    ∀ (ws : List (List Nat)) (idx i : Nat), (∀ x, x ∈ ws → ¬ 32 ∈ x) → i ≤ S.length → S.drop i = glu ws → Lp idx i i = match fiW f p len idx ws with
      | none => no
      | some k => ye k := by
  have hu : ∀ (u r : List Nat) (idx st i : Nat), st ≤ i → ¬ 32 ∈ u → S.drop i = u ++ 32 :: r → Lp idx st i = Lp idx st (i + u.length) := by
    intro u
    induction u with
    | nil =>
      intro r idx st i _ _ _
      rfl
    | cons x xs ih =>
      intro r idx st i hs hn hd
      have hl : i < S.length := by
        have e := congrArg List.length hd
        rw [List.length_drop] at e
        simp at e
        omega
      have e0 := drop_at (k := 0) hd
      rw [Nat.add_zero] at e0
      have x32 : ¬ S.getD i 0 = 32 := by
        rw [e0]
        intro e
        exact hn (by simp at e; rw [e]; exact List.mem_cons_self)
      have hd' : S.drop (i + 1) = xs ++ 32 :: r := drop_on (u := [x]) hd
      rw [h3 idx st i hs hl x32, ih r idx st (i + 1) (by omega) (fun e => hn (List.mem_cons_of_mem x e)) hd', List.length_cons, show i + 1 + xs.length = i + (xs.length + 1) from by omega]
  intro ws
  induction ws with
  | nil =>
    intro idx i _ hi hd
    have e := congrArg List.length hd
    rw [List.length_drop] at e
    simp [glu] at e
    rw [h4 idx i i (by omega) hi]
    rfl
  | cons x xs ih =>
    intro idx i hn hi hd
    have hd1 : S.drop i = x ++ 32 :: glu xs := hd
    have hx : ¬ 32 ∈ x := hn x List.mem_cons_self
    have hd2 := drop_on hd1
    have hd3 : S.drop (i + x.length + 1) = glu xs := drop_on (u := [32]) hd2
    have hl : i + x.length < S.length := by
      have e := congrArg List.length hd2
      rw [List.length_drop] at e
      simp at e
      omega
    rw [hu x _ idx i i (Nat.le_refl i) hx hd1, h1 idx i x _ hd1 hl, ih (idx + 1) (i + x.length + 1) (fun y hy => hn y (List.mem_cons_of_mem x hy)) (by omega) hd3]
    rw [fiW_c]
    by_cases hlen : x.length = len
    · rw [decide_eq_true hlen, bif_t]
      cases he : eqs f p x
      · rw [if_neg (by rw [Bool.and_false]; decide), bif_f]
      · rw [if_pos (by rw [decide_eq_true hlen.symm]; rfl), bif_t]
    · rw [decide_eq_false hlen, bif_f, if_neg (by rw [decide_eq_false (fun e => hlen e.symm), Bool.false_and]; decide)]
theorem same0_s (g : zg) {p e st : Nat} {M : zM} (he : e ≤ 400) (x : List Nat) : ∀ (q : Nat) (r : List Nat), p ≤ q → q + x.length = e → (glu (stW 0)).drop (st + q - p) = x ++ 32 :: r → zX (t_X9_isSame g) 3 [some (.ref 1), some (.int (nI p)), some (.int (nI e)), some (.ref 1000), some (.int (nI st)), some (.int (nI q))] [] M = some (some (.int (b01 (eqs (M.1 2) q x))), M) := by
  induction x with
  | nil =>
    intro q r h1 h2 h3
    simp at h2
    rw [e_X9_isSame_3, cLtF (by omega) (by omega), bif_f]
    rfl
  | cons y ys ih =>
    intro q r h1 h2 h3
    rw [List.length_cons] at h2
    have hl : st + q - p < 81 := by
      have c := congrArg List.length h3
      rw [List.length_drop, show (glu (stW 0)).length = 81 from by decide +kernel] at c
      simp at c
      omega
    have e0 := drop_at (k := 0) h3
    rw [Nat.add_zero] at e0
    have e1 : (glu (stW 0)).getD (st + q - p) 0 = y := e0
    have h4 : (glu (stW 0)).drop (st + (q + 1) - p) = ys ++ 32 :: r := by
      rw [show st + (q + 1) - p = st + q - p + 1 from by omega]
      exact drop_on (u := [y]) h3
    rw [e_X9_isSame_3, cLtT (by omega) (by omega), bif_t, zb_nI (by omega), decide_eq_true (by omega), bif_t, nI_ad2, nI_sub (by omega), chr0_s g hl, zbI_s, zx_nI (by omega), nI_s1, ih (q + 1) r (by omega) (by omega) h4, e1]
    show _ = some (some (Value.int (b01 (cEq (M.1 2 q) (nI y) && eqs (M.1 2) (q + 1) ys))), M)
    cases cEq (M.1 2 q) (nI y) <;> rfl
theorem word0_s (g : zg) {p e : Nat} {M : zM} (hp : p ≤ e) (he : e ≤ 400) : X_X9_wordOf g [.ref 1, .int (nI p), .int (nI e), .ref 1000] M = match fiW (M.1 2) p (e - p) 0 (stW 0) with
    | none => some (some (.int (-1)), M)
    | some k => some (some (.int (128 + nI k)), M) := by
  rw [x_X9_wordOf_0]
  have hS : (glu (stW 0)).length = 81 := by decide +kernel
  refine scanW (S := glu (stW 0)) (Lp := fun idx st i => zX (t_X9_wordOf g) 9 [some (.ref 1), some (.int (nI p)), some (.int (nI e)), some (.ref 1000), some (.int (nI idx)), some (.int (nI st)), some (.int (nI i))] [] M) (len := e - p) (no := some (some (.int (-1)), M)) (ye := fun k => some (some (.int (128 + nI k)), M)) (f := M.1 2) (p := p) ?_ ?_ ?_ (stW 0) 0 0 (by decide +kernel) (by omega) rfl
  · intro idx st x r h1 h2
    rw [hS] at h2
    show zX _ _ _ _ _ = _
    have e0 := drop_at (k := 0) (drop_on h1)
    rw [Nat.add_zero] at e0
    have e1 : (glu (stW 0)).getD (st + x.length) 0 = 32 := e0
    rw [e_X9_wordOf_9, len0_s, zbI_s, cLtT h2 (by omega), bif_t, chr0_s g h2, zbI_s, e1, show cEq (nI 32) 32 = true from by decide, bif_t, nI_sub (by omega), nI_sub hp, cEq_nI (by omega) (by omega), show st + x.length - st = x.length from by omega, nI_s1, nI_s1]
    by_cases hlen : x.length = e - p
    · rw [decide_eq_true hlen, bif_t, bif_t, x_X9_isSame_0, same0_s g he x p r (Nat.le_refl p) (by omega) (by rw [Nat.add_sub_cancel]; exact h1), zbI_s, cEq0_b01]
      cases eqs (M.1 2) p x <;> rfl
    · rw [decide_eq_false hlen, bif_f, bif_f]
  · intro idx st i h1 h2 h3
    rw [hS] at h2
    show zX _ _ _ _ _ = zX _ _ _ _ _
    rw [e_X9_wordOf_9, len0_s, zbI_s, cLtT h2 (by omega), bif_t, chr0_s g h2, zbI_s, show cEq (nI ((glu (stW 0)).getD i 0)) 32 = false from cEq_n (fun c => h3 (by
      have d : ∀ k : Fin 81, (glu (stW 0)).getD k 0 < 256 := by decide +kernel
      have := d ⟨i, h2⟩
      dsimp only at this
      have z := congrArg zx c
      rw [zx_nI (by omega)] at z
      exact z)), bif_f, nI_s1]
  · intro idx st i h1 h2
    show zX _ _ _ _ _ = _
    rw [e_X9_wordOf_9, len0_s, zbI_s, cLtF (by omega) (by omega), bif_f]
theorem same1_s (g : zg) {p e st : Nat} {M : zM} (he : e ≤ 400) (x : List Nat) : ∀ (q : Nat) (r : List Nat), p ≤ q → q + x.length = e → (glu (stW 1)).drop (st + q - p) = x ++ 32 :: r → zX (t_X9_isSame g) 3 [some (.ref 1), some (.int (nI p)), some (.int (nI e)), some (.ref 1001), some (.int (nI st)), some (.int (nI q))] [] M = some (some (.int (b01 (eqs (M.1 2) q x))), M) := by
  induction x with
  | nil =>
    intro q r h1 h2 h3
    simp at h2
    rw [e_X9_isSame_3_1, cLtF (by omega) (by omega), bif_f]
    rfl
  | cons y ys ih =>
    intro q r h1 h2 h3
    rw [List.length_cons] at h2
    have hl : st + q - p < 14 := by
      have c := congrArg List.length h3
      rw [List.length_drop, show (glu (stW 1)).length = 14 from by decide +kernel] at c
      simp at c
      omega
    have e0 := drop_at (k := 0) h3
    rw [Nat.add_zero] at e0
    have e1 : (glu (stW 1)).getD (st + q - p) 0 = y := e0
    have h4 : (glu (stW 1)).drop (st + (q + 1) - p) = ys ++ 32 :: r := by
      rw [show st + (q + 1) - p = st + q - p + 1 from by omega]
      exact drop_on (u := [y]) h3
    rw [e_X9_isSame_3_1, cLtT (by omega) (by omega), bif_t, zb_nI (by omega), decide_eq_true (by omega), bif_t, nI_ad2, nI_sub (by omega), chr1_s g hl, zbI_s, zx_nI (by omega), nI_s1, ih (q + 1) r (by omega) (by omega) h4, e1]
    show _ = some (some (Value.int (b01 (cEq (M.1 2 q) (nI y) && eqs (M.1 2) (q + 1) ys))), M)
    cases cEq (M.1 2 q) (nI y) <;> rfl
theorem word1_s (g : zg) {p e : Nat} {M : zM} (hp : p ≤ e) (he : e ≤ 400) : X_X9_wordOf g [.ref 1, .int (nI p), .int (nI e), .ref 1001] M = match fiW (M.1 2) p (e - p) 0 (stW 1) with
    | none => some (some (.int (-1)), M)
    | some k => some (some (.int (128 + nI k)), M) := by
  rw [x_X9_wordOf_0_1]
  have hS : (glu (stW 1)).length = 14 := by decide +kernel
  refine scanW (S := glu (stW 1)) (Lp := fun idx st i => zX (t_X9_wordOf g) 9 [some (.ref 1), some (.int (nI p)), some (.int (nI e)), some (.ref 1001), some (.int (nI idx)), some (.int (nI st)), some (.int (nI i))] [] M) (len := e - p) (no := some (some (.int (-1)), M)) (ye := fun k => some (some (.int (128 + nI k)), M)) (f := M.1 2) (p := p) ?_ ?_ ?_ (stW 1) 0 0 (by decide +kernel) (by omega) rfl
  · intro idx st x r h1 h2
    rw [hS] at h2
    show zX _ _ _ _ _ = _
    have e0 := drop_at (k := 0) (drop_on h1)
    rw [Nat.add_zero] at e0
    have e1 : (glu (stW 1)).getD (st + x.length) 0 = 32 := e0
    rw [e_X9_wordOf_9_1, len1_s, zbI_s, cLtT h2 (by omega), bif_t, chr1_s g h2, zbI_s, e1, show cEq (nI 32) 32 = true from by decide, bif_t, nI_sub (by omega), nI_sub hp, cEq_nI (by omega) (by omega), show st + x.length - st = x.length from by omega, nI_s1, nI_s1]
    by_cases hlen : x.length = e - p
    · rw [decide_eq_true hlen, bif_t, bif_t, x_X9_isSame_0_1, same1_s g he x p r (Nat.le_refl p) (by omega) (by rw [Nat.add_sub_cancel]; exact h1), zbI_s, cEq0_b01]
      cases eqs (M.1 2) p x <;> rfl
    · rw [decide_eq_false hlen, bif_f, bif_f]
  · intro idx st i h1 h2 h3
    rw [hS] at h2
    show zX _ _ _ _ _ = zX _ _ _ _ _
    rw [e_X9_wordOf_9_1, len1_s, zbI_s, cLtT h2 (by omega), bif_t, chr1_s g h2, zbI_s, show cEq (nI ((glu (stW 1)).getD i 0)) 32 = false from cEq_n (fun c => h3 (by
      have d : ∀ k : Fin 14, (glu (stW 1)).getD k 0 < 256 := by decide +kernel
      have := d ⟨i, h2⟩
      dsimp only at this
      have z := congrArg zx c
      rw [zx_nI (by omega)] at z
      exact z)), bif_f, nI_s1]
  · intro idx st i h1 h2
    show zX _ _ _ _ _ = _
    rw [e_X9_wordOf_9_1, len1_s, zbI_s, cLtF (by omega) (by omega), bif_f]
theorem same2_s (g : zg) {p e st : Nat} {M : zM} (he : e ≤ 400) (x : List Nat) : ∀ (q : Nat) (r : List Nat), p ≤ q → q + x.length = e → (glu (stW 2)).drop (st + q - p) = x ++ 32 :: r → zX (t_X9_isSame g) 3 [some (.ref 1), some (.int (nI p)), some (.int (nI e)), some (.ref 1002), some (.int (nI st)), some (.int (nI q))] [] M = some (some (.int (b01 (eqs (M.1 2) q x))), M) := by
  induction x with
  | nil =>
    intro q r h1 h2 h3
    simp at h2
    rw [e_X9_isSame_3_2, cLtF (by omega) (by omega), bif_f]
    rfl
  | cons y ys ih =>
    intro q r h1 h2 h3
    rw [List.length_cons] at h2
    have hl : st + q - p < 35 := by
      have c := congrArg List.length h3
      rw [List.length_drop, show (glu (stW 2)).length = 35 from by decide +kernel] at c
      simp at c
      omega
    have e0 := drop_at (k := 0) h3
    rw [Nat.add_zero] at e0
    have e1 : (glu (stW 2)).getD (st + q - p) 0 = y := e0
    have h4 : (glu (stW 2)).drop (st + (q + 1) - p) = ys ++ 32 :: r := by
      rw [show st + (q + 1) - p = st + q - p + 1 from by omega]
      exact drop_on (u := [y]) h3
    rw [e_X9_isSame_3_2, cLtT (by omega) (by omega), bif_t, zb_nI (by omega), decide_eq_true (by omega), bif_t, nI_ad2, nI_sub (by omega), chr2_s g hl, zbI_s, zx_nI (by omega), nI_s1, ih (q + 1) r (by omega) (by omega) h4, e1]
    show _ = some (some (Value.int (b01 (cEq (M.1 2 q) (nI y) && eqs (M.1 2) (q + 1) ys))), M)
    cases cEq (M.1 2 q) (nI y) <;> rfl
theorem word2_s (g : zg) {p e : Nat} {M : zM} (hp : p ≤ e) (he : e ≤ 400) : X_X9_wordOf g [.ref 1, .int (nI p), .int (nI e), .ref 1002] M = match fiW (M.1 2) p (e - p) 0 (stW 2) with
    | none => some (some (.int (-1)), M)
    | some k => some (some (.int (128 + nI k)), M) := by
  rw [x_X9_wordOf_0_2]
  have hS : (glu (stW 2)).length = 35 := by decide +kernel
  refine scanW (S := glu (stW 2)) (Lp := fun idx st i => zX (t_X9_wordOf g) 9 [some (.ref 1), some (.int (nI p)), some (.int (nI e)), some (.ref 1002), some (.int (nI idx)), some (.int (nI st)), some (.int (nI i))] [] M) (len := e - p) (no := some (some (.int (-1)), M)) (ye := fun k => some (some (.int (128 + nI k)), M)) (f := M.1 2) (p := p) ?_ ?_ ?_ (stW 2) 0 0 (by decide +kernel) (by omega) rfl
  · intro idx st x r h1 h2
    rw [hS] at h2
    show zX _ _ _ _ _ = _
    have e0 := drop_at (k := 0) (drop_on h1)
    rw [Nat.add_zero] at e0
    have e1 : (glu (stW 2)).getD (st + x.length) 0 = 32 := e0
    rw [e_X9_wordOf_9_2, len2_s, zbI_s, cLtT h2 (by omega), bif_t, chr2_s g h2, zbI_s, e1, show cEq (nI 32) 32 = true from by decide, bif_t, nI_sub (by omega), nI_sub hp, cEq_nI (by omega) (by omega), show st + x.length - st = x.length from by omega, nI_s1, nI_s1]
    by_cases hlen : x.length = e - p
    · rw [decide_eq_true hlen, bif_t, bif_t, x_X9_isSame_0_2, same2_s g he x p r (Nat.le_refl p) (by omega) (by rw [Nat.add_sub_cancel]; exact h1), zbI_s, cEq0_b01]
      cases eqs (M.1 2) p x <;> rfl
    · rw [decide_eq_false hlen, bif_f, bif_f]
  · intro idx st i h1 h2 h3
    rw [hS] at h2
    show zX _ _ _ _ _ = zX _ _ _ _ _
    rw [e_X9_wordOf_9_2, len2_s, zbI_s, cLtT h2 (by omega), bif_t, chr2_s g h2, zbI_s, show cEq (nI ((glu (stW 2)).getD i 0)) 32 = false from cEq_n (fun c => h3 (by
      have d : ∀ k : Fin 35, (glu (stW 2)).getD k 0 < 256 := by decide +kernel
      have := d ⟨i, h2⟩
      dsimp only at this
      have z := congrArg zx c
      rw [zx_nI (by omega)] at z
      exact z)), bif_f, nI_s1]
  · intro idx st i h1 h2
    show zX _ _ _ _ _ = _
    rw [e_X9_wordOf_9_2, len2_s, zbI_s, cLtF (by omega) (by omega), bif_f]
