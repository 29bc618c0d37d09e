/-! PURE ROWS: the reference reads a token -/
theorem ld_dec : ∀ b : Fin 256, (ltC (nI b) = true → dgC (nI b) = false ∧ blC (nI b) = false ∧ ¬ nI b = 32) ∧ (dgC (nI b) = true → blC (nI b) = false ∧ 48 ≤ b.val ∧ b.val ≤ 57) ∧ cEq (nI b) (-1) = false := by decide +kernel
theorem ltC_m1 : ltC (-1) = false := by decide +kernel
theorem dgC_m1 : dgC (-1) = false := by decide +kernel
theorem blC_m1 : cEq (-1 : Int32) 32 = false ∧ cEq (-1 : Int32) 10 = false := by decide +kernel
theorem nuF_r {f : Nat → Int32} : ∀ (n p : Nat) (v : Int32), nuF f (n + 1) p v = nuF f n p v * 10 + f (p + n) - 48 := by
  intro n
  induction n with
  | zero => intro p v; rfl
  | succ n ih =>
    intro p v
    show nuF f (n + 1) (p + 1) (v * 10 + f p - 48) = nuF f n (p + 1) (v * 10 + f p - 48) * 10 + f (p + (n + 1)) - 48
    rw [ih (p + 1), show p + 1 + n = p + (n + 1) from by omega]
theorem dig_step {v b : Nat} (hb : 48 ≤ b) (h : v * 10 + b < 2147483648) : nI v * 10 + nI b - 48 = nI (v * 10 + b - 48) := by
  rw [show (10 : Int32) = nI 10 from rfl, show (48 : Int32) = nI 48 from rfl, show nI v * nI 10 = nI (v * 10) from by unfold nI; rw [← Int32.ofNat_mul], nI_ad2, nI_sub (by omega)]
theorem nuF_nat {f : Nat → Int32} {p : Nat} : ∀ n, n ≤ 8 → (∀ k, k < n → ∃ b, 48 ≤ b ∧ b ≤ 57 ∧ f (p + k) = nI b) → ∃ v, v < 10 ^ n ∧ nuF f n p 0 = nI v := by
  intro n
  induction n with
  | zero => intro _ _; exact ⟨0, by decide, rfl⟩
  | succ n ih =>
    intro hn h
    obtain ⟨v, v1, v2⟩ := ih (by omega) (fun k hk => h k (by omega))
    obtain ⟨b, b1, b2, b3⟩ := h n (by omega)
    have h10 : 10 ^ n ≤ 10 ^ 7 := Nat.pow_le_pow_right (by omega) (by omega)
    have e7 : (10 : Nat) ^ 7 = 10000000 := by decide
    refine ⟨v * 10 + b - 48, ?_, ?_⟩
    · rw [Nat.pow_succ]
      omega
    · rw [nuF_r, v2, b3, dig_step b1 (by omega)]
/-- the reference's kind of token, what it is worth -/
def kdM (f : Nat → Int32) (L p : Nat) : Int32 := bif ltC (f p) then (match fiW f p (enE f L p - p) 0 rfW with
    | none => 1
    | some _ => 2)
  else bif dgC (f p) then (bif decide (enE f L p - p ≤ 4) then 3 else 1) else bif sgC (f p) then 4 else 1
def vlM (f : Nat → Int32) (L p : Nat) : Int32 := bif ltC (f p) then (match fiW f p (enE f L p - p) 0 rfW with
    | none => -1
    | some k => nI k)
  else bif dgC (f p) then nuF f (enE f L p - p) p 0 else f p
def RTK (f : Nat → Int32) (L p : Nat) (J : zI) : Prop := J 72 15 = nI p ∧ (p = L → J 72 14 = nI L ∧ J 72 16 = 0) ∧ (p < L → J 72 14 = nI (enE f L p) ∧ J 72 16 = kdM f L p ∧ (¬ kdM f L p = 1 → J 72 17 = vlM f L p))
/-- what reading leaves -/
def RDF (J J' : zI) : Prop := (∀ a, a ≠ 72 → J' a = J a) ∧ ∀ k, k ≠ 14 → k ≠ 15 → k ≠ 16 → k ≠ 17 → J' 72 k = J 72 k
theorem RDF_u {J J' : zI} {k : Nat} {v : Int32} (h : RDF J J') (hk : k = 14 ∨ k = 15 ∨ k = 16 ∨ k = 17) : RDF J (zu J' 72 k v) := ⟨fun a ha => (zu_ne ha).trans (h.1 a ha), fun i u1 u2 u3 u4 => (zu_ne2 (by omega)).trans (h.2 i u1 u2 u3 u4)⟩
theorem RDF_r (J : zI) : RDF J J := ⟨fun _ _ => rfl, fun _ _ _ _ _ => rfl⟩
theorem RDF_t {J J' J'' : zI} (h : RDF J J') (h' : RDF J' J'') : RDF J J'' := ⟨fun a ha => (h'.1 a ha).trans (h.1 a ha), fun k u1 u2 u3 u4 => (h'.2 k u1 u2 u3 u4).trans (h.2 k u1 u2 u3 u4)⟩
theorem rd_95 (g : zg) {f : Nat → Int32} {L p : Nat} (hL : L ≤ 400) (n : Nat) : ∀ (q : Nat) (M : zM), q + n = L → p ≤ q → M.1 79 = f → M.1 72 13 = nI L → M.1 72 14 = nI q → M.1 72 15 = nI p → (∀ k, p ≤ k → k < runE ltC f L n q → ¬ f k = 32) → (∀ k, k < 125 → M.1 80 k = wtb k) → ∃ J', zX (t_X12_reads g) 95 [some (.ref 72), none] [] M = some (none, (J', M.2)) ∧ RDF M.1 J' ∧ J' 72 15 = nI p ∧ J' 72 14 = nI (runE ltC f L n q) ∧ match fiW f p (runE ltC f L n q - p) 0 rfW with
      | none => J' 72 16 = M.1 72 16
      | some k => J' 72 16 = 2 ∧ J' 72 17 = nI k := by
  have fin : ∀ (q : Nat) (M : zM), p ≤ q → q ≤ L → ltC (rawV f L q) = false → M.1 79 = f → M.1 72 13 = nI L → M.1 72 14 = nI q → M.1 72 15 = nI p → (∀ k, p ≤ k → k < q → ¬ f k = 32) → (∀ k, k < 125 → M.1 80 k = wtb k) → ∃ J', zX (t_X12_reads g) 95 [some (.ref 72), none] [] M = some (none, (J', M.2)) ∧ RDF M.1 J' ∧ J' 72 15 = nI p ∧ J' 72 14 = nI q ∧ match fiW f p (q - p) 0 rfW with
      | none => J' 72 16 = M.1 72 16
      | some k => J' 72 16 = 2 ∧ J' 72 17 = nI k := by
    intro q M h1 h2 h3 h4 h5 h6 h7 h8 h9
    have wd := wordM_s g (M := M) (p := p) (e := q) (by omega) h1 h9 (by rw [h4]; exact h8)
    rw [h4] at wd
    have st : zX (t_X12_reads g) 95 [some (.ref 72), none] [] M = (match fiW f p (q - p) 0 rfW with
        | none => some (none, ((zu M.1 72 17 (-1)), M.2))
        | some k => some (none, ((zu (zu M.1 72 17 (nI k)) 72 16 2), M.2))) := by
      rw [e_X12_reads_95, h6, raw_s g hL h5 h2, zbI_s, h4, letM_s, zbI_s, h3, show cEq0 (b01 false) = true from rfl, bif_t, h6, h7, wd]
      cases hf : fiW f p (q - p) 0 rfW with
      | none =>
        show zbI (some (some (.int (-1)), M)) _ = _
        rw [zbI_s, show cEq (-1 : Int32) (-1) = true from cEq_s rfl, bif_t]
      | some k =>
        show zbI (some (some (.int (nI k)), M)) _ = _
        have hk : k < 25 := by
          obtain ⟨k', x, g1, g2, _⟩ := fiW_some _ _ _ hf
          have c := (List.getElem?_eq_some_iff.1 g2).1
          rw [rf_len] at c
          omega
        have d : ∀ k : Fin 25, cEq (nI k) (-1) = false := by decide +kernel
        have d1 := d ⟨k, hk⟩
        dsimp only at d1
        rw [zbI_s, d1, bif_f]
    cases hf : fiW f p (q - p) 0 rfW with
    | none =>
      rw [hf] at st
      exact ⟨_, st, RDF_u (RDF_r _) (by omega), (zu_ne2 (by omega)).trans h7, (zu_ne2 (by omega)).trans h6, zu_ne2 (by omega)⟩
    | some k =>
      rw [hf] at st
      refine ⟨_, st, RDF_u (RDF_u (RDF_r _) (by omega)) (by omega), ?_, ?_, zu_eq, ?_⟩
      · rw [zu_ne2 (by omega), zu_ne2 (by omega)]
        exact h7
      · rw [zu_ne2 (by omega), zu_ne2 (by omega)]
        exact h6
      · rw [zu_ne2 (by omega), zu_eq]
  induction n with
  | zero =>
    intro q M h1 h2 h3 h4 h5 h6 h7 h8
    exact fin q M h2 (by omega) (by unfold rawV; rw [if_neg (by omega)]; exact ltC_m1) h3 h4 h5 h6 h7 h8
  | succ n ih =>
    intro q M h1 h2 h3 h4 h5 h6 h7 h8
    have hr : rawV f L q = f q := by unfold rawV; rw [if_pos (by omega)]
    cases hl : ltC (f q)
    · rw [runE_s (by omega), hl, bif_f] at h7 ⊢
      exact fin q M h2 (by omega) (by rw [hr]; exact hl) h3 h4 h5 h6 h7 h8
    · rw [runE_s (by omega), hl, bif_t] at h7 ⊢
      obtain ⟨J', r1, r2, r3, r4, r5⟩ := ih (q + 1) ((zu M.1 72 14 (nI (q + 1))), M.2) (by omega) (by omega) (by dsimp only; rw [zu_ne (by omega)]; exact h3) (by dsimp only; rw [zu_ne2 (by omega)]; exact h4) (by dsimp only; exact zu_eq) (by dsimp only; rw [zu_ne2 (by omega)]; exact h6) h7 (fun k hk => by dsimp only; rw [zu_ne1 (by omega)]; exact h8 k hk)
      dsimp only at r1 r2 r5
      rw [zu_ne2 (j := 16) (by omega)] at r5
      refine ⟨J', ?_, RDF_t (RDF_u (RDF_r _) (by omega)) r2, r3, r4, r5⟩
      rw [e_X12_reads_95, h5, raw_s g hL h4 (by omega), zbI_s, h3, hr, letM_s, zbI_s, hl, show cEq0 (b01 true) = false from rfl, bif_f, h5, nI_s1]
      exact r1
