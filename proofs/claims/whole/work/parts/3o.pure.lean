/-! PURE ROWS: a run of the law's codes on both sides -/
noncomputable def rkA (g : zg) (e t i : Nat) (M : zM) : Option (Option Value × zM) := zX (t_X4_reckon g) 5 [some (.ref 9), none, some (.int (nI e)), some (.int (nI t)), some (.int (nI i)), none, none] [] M
noncomputable def rnA (g : zg) (e t i : Nat) (M : zM) : Option (Option Value × zM) := zX (t_X12_runs g) 12 [some (.ref 72), some (.int 0), none, some (.int (nI e)), some (.int (nI t)), some (.int (nI i))] [] M
theorem law_two (g : zg) {o k i e : Nat} {M N : zM} {cs rs : Nat → Int32} {x y z : Nat} {r : List Nat} (hM : M.1 14 i = cdOf o k) (hO : N.1 86 i = nI o) (hi : i < e) (he : e ≤ 400) (ho : 2 ≤ o ∧ o ≤ 11 ∧ ¬ o = 9) (hl : (x :: y :: r).length ≤ 32) (hv : SV cs rs (x :: y :: r))
    (hj : o = 2 ∨ o = 3 ∨ o = 4 ∨ (o = 5 ∧ x = 2) ∨ o = 6 ∨ o = 7 ∨ o = 8 ∨ ((o = 10 ∨ o = 11) ∧ x = 1 ∧ y = 1)) (hz1 : z = 1 → o = 6 ∨ o = 7 ∨ o = 8 ∨ o = 10 ∨ o = 11) (hz2 : ¬ z = 2) :
    ∃ cs' rs', SV cs' rs' (z :: r) ∧ (z :: r).length ≤ 32 ∧ rkA g e (x :: y :: r).length i ((zr M.1 15 cs), M.2) = rkA g e (z :: r).length (i + 1) ((zr M.1 15 cs'), M.2) ∧ rnA g e (x :: y :: r).length i ((zr N.1 92 rs), N.2) = rnA g e (z :: r).length (i + 1) ((zr N.1 92 rs'), N.2) := by
  obtain ⟨h1, h2, h3, h4, h5, h6, h7⟩ := hv
  have hx : (y :: r).length = r.length + 1 := rfl
  have hx2 : (x :: y :: r).length = r.length + 1 + 1 := rfl
  have hx3 : (z :: r).length = r.length + 1 := rfl
  rw [hx] at h1 h2 h3
  have hb : x = 2 → ¬ cs (r.length + 1) = 0 := h3
  have hXY : o = 10 ∨ o = 11 → x = 1 ∧ y = 1 := by
    intro h9
    rcases hj with h | h | h | ⟨h, _⟩ | h | h | h | ⟨_, h⟩
    · exact absurd h (by clear hz1; omega)
    · exact absurd h (by clear hz1; omega)
    · exact absurd h (by clear hz1; omega)
    · exact absurd h (by clear hz1; omega)
    · exact absurd h (by clear hz1; omega)
    · exact absurd h (by clear hz1; omega)
    · exact absurd h (by clear hz1; omega)
    · exact h
  refine ⟨upd1 cs r.length (two o (cs r.length) (cs (r.length + 1))), upd1 rs r.length (two o (cs r.length) (cs (r.length + 1))), ?_, by omega, ?_, ?_⟩
  · refine SV_push h7 ?_ (fun h => absurd h hz2)
    intro hz
    have hq := hz1 hz
    rcases hq with rfl | rfl | rfl | rfl | rfl
    · show b01 _ = 0 ∨ b01 _ = 1
      cases cLt (cs r.length) (cs (r.length + 1)) <;> decide
    · show b01 _ = 0 ∨ b01 _ = 1
      cases cEq (cs r.length) (cs (r.length + 1)) <;> decide
    · show b01 _ = 0 ∨ b01 _ = 1
      cases cGt (cs r.length) (cs (r.length + 1)) <;> decide
    · have hxy : x = 1 ∧ y = 1 := hXY (by simp)
      show cs r.length &&& cs (r.length + 1) = 0 ∨ cs r.length &&& cs (r.length + 1) = 1
      rcases h2 hxy.1 with e1 | e1 <;> rcases h5 hxy.2 with e2 | e2 <;> rw [e1, e2] <;> decide
    · have hxy : x = 1 ∧ y = 1 := hXY (by simp)
      show cs r.length ||| cs (r.length + 1) = 0 ∨ cs r.length ||| cs (r.length + 1) = 1
      rcases h2 hxy.1 with e1 | e1 <;> rcases h5 hxy.2 with e2 | e2 <;> rw [e1, e2] <;> decide
  · unfold rkA
    rw [hx2, hx3, ← zu_zr]
    refine rk_two g (o := o) (k := k) ?_ ho (by omega) hi he ?_
    · dsimp only; rw [zr_ne (by omega)]; exact hM
    · dsimp only
      rw [zr_row]
      refine join_s g _ _ _ ?_ k
      by_cases h50 : o = 5
      · exact Or.inr (Or.inr (Or.inr (Or.inl ⟨h50, hb (by omega)⟩)))
      · omega
  · unfold rnA
    rw [hx2, hx3, ← zu_zr]
    refine rn_two g (o := o) ?_ ho (by omega) hi he ?_
    · dsimp only; rw [zr_ne (by omega)]; exact hO
    · dsimp only
      rw [zr_row, ← h1, ← h4]
      refine twoOf_s g _ _ _ ?_
      by_cases h50 : o = 5
      · exact Or.inr (Or.inr (Or.inr (Or.inl ⟨h50, hb (by omega)⟩)))
      · by_cases h10 : o = 10 ∨ o = 11
        · have hxy : x = 1 ∧ y = 1 := hXY h10
          exact Or.inr (Or.inr (Or.inr (Or.inr (Or.inr (Or.inr (Or.inr ⟨h10, h5 hxy.2, h2 hxy.1⟩))))))
        · omega
theorem law_step (g : zg) {o k i e : Nat} {M N : zM} {cs rs : Nat → Int32} {s s' : List Nat} (hfa : ∀ j, j < 9 → M.1 16 j = N.1 91 j) (hM : M.1 14 i = cdOf o k) (hO : N.1 86 i = nI o) (hA : N.1 87 i = nI k) (hi : i < e) (he : e ≤ 400) (ht : ty1 o k s s') (hl : s.length ≤ 32) (hv : SV cs rs s) :
    ∃ cs' rs', SV cs' rs' s' ∧ s'.length ≤ 32 ∧ rkA g e s.length i ((zr M.1 15 cs), M.2) = rkA g e s'.length (i + 1) ((zr M.1 15 cs'), M.2) ∧ rnA g e s.length i ((zr N.1 92 rs), N.2) = rnA g e s'.length (i + 1) ((zr N.1 92 rs'), N.2) := by
  rcases ht with ⟨rfl, ht, hk, rfl⟩ | ⟨rfl, ht, hk, rfl⟩ | ⟨rfl, r, rfl, rfl⟩ | ⟨ho, x, y, r, rfl, rfl⟩ | ⟨ho, y, r, rfl, rfl⟩ | ⟨ho, x, y, r, rfl, rfl⟩ | ⟨ho, r, rfl, rfl⟩
  · refine ⟨upd1 cs s.length (nI k), upd1 rs s.length (nI k), ?_, ht, ?_, ?_⟩
    · refine SV_push hv ?_ ?_
      · intro h; split at h <;> omega
      · intro h
        by_cases k0 : k = 0
        · rw [if_pos k0] at h; omega
        · exact nI_ne0 (by omega) (by omega)
    · unfold rkA
      rw [← zu_zr]
      exact rk_num g (by dsimp only; rw [zr_ne (by omega)]; exact hM) hk ht hi he
    · unfold rnA
      rw [← zu_zr]
      exact rn_num g (by dsimp only; rw [zr_ne (by omega)]; exact hO) (by dsimp only; rw [zr_ne (by omega)]; exact hA) ht hi he
  · refine ⟨upd1 cs s.length (M.1 16 k), upd1 rs s.length (M.1 16 k), ?_, ht, ?_, ?_⟩
    · exact SV_push hv (by omega) (by omega)
    · unfold rkA
      rw [← zu_zr]
      have h := rk_fact g (i := i) (e := e) (t := s.length) (k := k) (M := ((zr M.1 15 cs), M.2)) (by dsimp only; rw [zr_ne (by omega)]; exact hM) hk ht hi he
      dsimp only at h
      rw [zr_ne (show 16 ≠ 15 by omega)] at h
      exact h
    · unfold rnA
      rw [← zu_zr]
      have h := rn_fact g (i := i) (e := e) (t := s.length) (k := k) (M := ((zr N.1 92 rs), N.2)) (by dsimp only; rw [zr_ne (by omega)]; exact hO) (by dsimp only; rw [zr_ne (by omega)]; exact hA) hk ht hi he
      dsimp only at h
      rw [zr_ne (show 91 ≠ 92 by omega), ← hfa k hk] at h
      exact h
  · obtain ⟨h1, h2, h3, h4⟩ := hv
    have hx : (1 :: r).length = r.length + 1 := rfl
    refine ⟨upd1 cs r.length (1 - cs r.length), upd1 rs r.length (1 - cs r.length), ?_, hl, ?_, ?_⟩
    · refine SV_push h4 ?_ (by omega)
      intro _
      rcases h2 rfl with e1 | e1 <;> rw [e1] <;> decide
    · unfold rkA
      rw [hx, ← zu_zr]
      have h := rk_not g (i := i) (e := e) (t := r.length) (M := ((zr M.1 15 cs), M.2)) (by dsimp only; rw [zr_ne (by omega)]; exact hM) (by omega) hi he
      dsimp only at h
      rw [zr_row] at h
      exact h
    · unfold rnA
      rw [hx, ← zu_zr]
      have h := rn_not g (i := i) (e := e) (t := r.length) (M := ((zr N.1 92 rs), N.2)) (by dsimp only; rw [zr_ne (by omega)]; exact hO) (by omega) hi he
      dsimp only at h
      rw [zr_row, ← h1] at h
      exact h
  · exact law_two g hM hO hi he (by omega) hl hv (by omega) (by omega) (by omega)
  · exact law_two g hM hO hi he (by omega) hl hv (by omega) (by omega) (by omega)
  · exact law_two g hM hO hi he (by omega) hl hv (by omega) (by omega) (by omega)
  · exact law_two g hM hO hi he (by omega) hl hv (by omega) (by omega) (by omega)
theorem law_run (g : zg) {o k : Nat → Nat} {M N : zM} (hfa : ∀ j, j < 9 → M.1 16 j = N.1 91 j) {e : Nat} (he : e ≤ 400) (n : Nat) : ∀ (i : Nat) (s s' : List Nat) (cs rs : Nat → Int32), i + n = e → (∀ j, i ≤ j → j < e → M.1 14 j = cdOf (o j) (k j) ∧ N.1 86 j = nI (o j) ∧ N.1 87 j = nI (k j)) → tyR o k n i s s' → s.length ≤ 32 → SV cs rs s →
    ∃ cs' rs', SV cs' rs' s' ∧ rkA g e s.length i ((zr M.1 15 cs), M.2) = some (some (.int (cs' 0)), ((zr M.1 15 cs'), M.2)) ∧ rnA g e s.length i ((zr N.1 92 rs), N.2) = some (some (.int (rs' 0)), ((zr N.1 92 rs'), N.2)) := by
  induction n with
  | zero =>
    intro i s s' cs rs hi _ ht hl hv
    have hs : s = s' := ht
    subst hs
    have hie : i = e := by omega
    subst hie
    refine ⟨cs, rs, hv, ?_, ?_⟩
    · unfold rkA
      rw [rk_end g he]
      dsimp only
      rw [zr_row]
    · unfold rnA
      rw [rn_end g he]
      dsimp only
      rw [zr_row]
  | succ n ih =>
    intro i s s' cs rs hi hc ht hl hv
    obtain ⟨t, h1, h2⟩ := ht
    obtain ⟨c1, c2, c3⟩ := hc i (Nat.le_refl i) (by omega)
    obtain ⟨cs1, rs1, v1, l1, q1, q2⟩ := law_step g hfa c1 c2 c3 (by omega) he h1 hl hv
    obtain ⟨cs2, rs2, v2, p1, p2⟩ := ih (i + 1) t s' cs1 rs1 (by omega) (fun j a b => hc j (by omega) b) h2 l1 v1
    exact ⟨cs2, rs2, v2, q1.trans p1, q2.trans p2⟩
theorem SV_bot {cs rs : Nat → Int32} : ∀ {s : List Nat}, SV cs rs s → 0 < s.length → cs 0 = rs 0 := by
  intro s
  induction s with
  | nil => intro _ h; exact absurd h (by simp)
  | cons t s ih =>
    intro h _
    cases s with
    | nil => exact h.1
    | cons u s => exact ih h.2.2.2 (by simp)
/-- both reckon a stretch of codes alike -/
theorem law_reck (g : zg) {o k : Nat → Nat} {M N : zM} (hfa : ∀ j, j < 9 → M.1 16 j = N.1 91 j) {i e : Nat} {s' : List Nat} (hie : i ≤ e) (he : e ≤ 400) (hc : ∀ j, i ≤ j → j < e → M.1 14 j = cdOf (o j) (k j) ∧ N.1 86 j = nI (o j) ∧ N.1 87 j = nI (k j)) (ht : tyR o k (e - i) i [] s') (h0 : 0 < s'.length) (cs rs : Nat → Int32) :
    ∃ cs' rs' v, X_X4_reckon g [.ref 9, .int (nI i), .int (nI e)] ((zr M.1 15 cs), M.2) = some (some (.int v), ((zr M.1 15 cs'), M.2)) ∧ X_X12_runs g [.ref 72, .int 0, .int (nI i), .int (nI e)] ((zr N.1 92 rs), N.2) = some (some (.int v), ((zr N.1 92 rs'), N.2)) := by
  obtain ⟨cs', rs', hv, h1, h2⟩ := law_run g (o := o) (k := k) hfa he (e - i) i [] s' cs rs (by omega) hc ht (by decide) True.intro
  refine ⟨cs', rs', cs' 0, ?_, ?_⟩
  · rw [x_X4_reckon_0]
    exact h1
  · rw [x_X12_runs_0, show (400 : Int32) * 0 + nI i = nI i from by rw [show (400 : Int32) * 0 = 0 from by decide, Int32.zero_add], SV_bot hv h0]
    exact h2
