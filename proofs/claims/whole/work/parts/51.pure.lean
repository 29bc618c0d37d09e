/-! PURE ROWS: the least of the fewest -/
/-- t and what is behind it: those of whom p speaks, as a set -/
def seF (p : Nat → Bool) : Nat → Nat → Nat
  | 0, _ => 0
  | f + 1, t => (if p t = true then 2 ^ t else 0) + seF p f (t + 1)
theorem seF_lt {p : Nat → Bool} (f : Nat) : ∀ t, t + f ≤ 10 → seF p f t ≤ 2 ^ (t + f) - 2 ^ t := by
  induction f with
  | zero => intro t _; exact Nat.zero_le _
  | succ f ih =>
    intro t ht
    have h := ih (t + 1) (by omega)
    have e : t + 1 + f = t + (f + 1) := by omega
    rw [e, Nat.pow_succ] at h
    have h2 : 2 ^ (t + 1) ≤ 2 ^ (t + (f + 1)) := Nat.pow_le_pow_right (by omega) (by omega)
    rw [Nat.pow_succ] at h2
    show (if p t = true then 2 ^ t else 0) + seF p f (t + 1) ≤ _
    split <;> omega
theorem orF {a : Nat} {t : Nat} (h : a < 2 ^ t) : a ||| 2 ^ t = a + 2 ^ t := by
  rw [Nat.or_comm]
  have := Nat.two_pow_add_eq_or_of_lt h 1
  rw [Nat.mul_one] at this
  rw [← this, Nat.add_comm]
theorem seF_bit : ∀ (f t : Nat) (p : Nat → Bool), t + f ≤ 10 → ∀ k, bt10 (seF p f t) k = (decide (t ≤ k) && decide (k < t + f) && p k) := by
  intro f
  induction f with
  | zero =>
    intro t p _ k
    show bt10 0 k = _
    unfold bt10
    rw [Nat.zero_div]
    have : ¬ (t ≤ k ∧ k < t + 0) := by omega
    by_cases h1 : t ≤ k
    · have h2 : ¬ k < t + 0 := by omega
      rw [decide_eq_false h2]
      simp
    · rw [decide_eq_false h1]
      simp
  | succ f ih =>
    intro t p ht k
    have h := ih (t + 1) p (by omega) k
    unfold bt10 at h ⊢
    -- what is behind t is a number of 2 ^ (t + 1)
    have hd : ∃ q, seF p f (t + 1) = q * 2 ^ (t + 1) := by
      clear h ih
      have : ∀ f t, ∃ q, seF p f t = q * 2 ^ t := by
        intro f
        induction f with
        | zero => intro t; exact ⟨0, by rw [Nat.zero_mul]; rfl⟩
        | succ f ih =>
          intro t
          obtain ⟨q, hq⟩ := ih (t + 1)
          refine ⟨(if p t = true then 1 else 0) + 2 * q, ?_⟩
          show (if p t = true then 2 ^ t else 0) + seF p f (t + 1) = _
          rw [hq, Nat.pow_succ, Nat.add_mul]
          split
          · rw [Nat.one_mul, Nat.mul_comm (2 ^ t) 2, ← Nat.mul_assoc, Nat.mul_comm q 2]
          · rw [Nat.zero_mul, Nat.mul_comm (2 ^ t) 2, ← Nat.mul_assoc, Nat.mul_comm q 2]
      exact this f (t + 1)
    obtain ⟨q, hq⟩ := hd
    show decide (((if p t = true then 2 ^ t else 0) + seF p f (t + 1)) / 2 ^ k % 2 = 1) = _
    by_cases hk : k < t
    · have e0 : ((if p t = true then 2 ^ t else 0) + seF p f (t + 1)) / 2 ^ k % 2 = 0 := by
        have e1 : 2 ^ t = 2 ^ (t - k - 1) * 2 * 2 ^ k := by
          rw [← Nat.pow_succ, ← Nat.pow_add]
          congr 1
          omega
        rw [hq, Nat.pow_succ, e1]
        split
        · rw [show 2 ^ (t - k - 1) * 2 * 2 ^ k + q * (2 ^ (t - k - 1) * 2 * 2 ^ k * 2) = (2 ^ (t - k - 1) + q * 2 ^ (t - k - 1) * 2) * 2 * 2 ^ k by
            rw [Nat.add_mul, Nat.add_mul]
            congr 1
            simp only [Nat.mul_assoc, Nat.mul_comm, Nat.mul_left_comm], Nat.mul_div_cancel _ (Nat.pow_pos (by omega)), Nat.mul_mod_left]
        · rw [show 0 + q * (2 ^ (t - k - 1) * 2 * 2 ^ k * 2) = (q * 2 ^ (t - k - 1) * 2) * 2 * 2 ^ k by
            rw [Nat.zero_add]
            simp only [Nat.mul_assoc, Nat.mul_comm, Nat.mul_left_comm], Nat.mul_div_cancel _ (Nat.pow_pos (by omega)), Nat.mul_mod_left]
      rw [e0, decide_eq_false (show ¬ t ≤ k by omega)]
      rfl
    · by_cases hkt : k = t
      · subst hkt
        rw [hq, Nat.pow_succ]
        have hp : 0 < 2 ^ k := Nat.pow_pos (by omega)
        rw [show q * (2 ^ k * 2) = (q * 2) * 2 ^ k by simp only [Nat.mul_assoc, Nat.mul_comm, Nat.mul_left_comm], Nat.add_mul_div_right _ _ hp, decide_eq_true (Nat.le_refl k), decide_eq_true (show k < k + (f + 1) by omega)]
        cases p k
        · simp
        · rw [if_pos rfl, Nat.div_self hp]
          simp
      · have e1 : ((if p t = true then 2 ^ t else 0) + seF p f (t + 1)) / 2 ^ k = seF p f (t + 1) / 2 ^ k := by
          have e2 : 2 ^ k = 2 ^ (t + 1) * 2 ^ (k - (t + 1)) := by
            rw [← Nat.pow_add]
            congr 1
            omega
          rw [e2, ← Nat.div_div_eq_div_mul, ← Nat.div_div_eq_div_mul, hq, Nat.add_mul_div_right _ _ (Nat.pow_pos (by omega)), Nat.mul_div_cancel _ (Nat.pow_pos (by omega))]
          have : (if p t = true then 2 ^ t else 0) / 2 ^ (t + 1) = 0 := by
            apply Nat.div_eq_of_lt
            have hp : 0 < 2 ^ t := Nat.pow_pos (by omega)
            rw [Nat.pow_succ]
            split <;> omega
          rw [this, Nat.zero_add]
        rw [e1, h]
        have h3 : decide (t + 1 ≤ k) = decide (t ≤ k) := by rw [decide_eq_decide]; omega
        have h4 : decide (k < t + 1 + f) = decide (k < t + (f + 1)) := by rw [decide_eq_decide]; omega
        rw [h3, h4]
/-- the least of the fewest of whom P speaks, s and what is behind it; b the best ahead of them -/
def wiF (P : Nat → Bool) : Nat → Nat → Option Nat → Option Nat
  | 0, _, b => b
  | f + 1, s, b => wiF P f (s + 1) (if P s = true ∧ (∀ u, b = some u → pcN s < pcN u) then some s else b)
/-- b is the least of the fewest among those below s -/
def wiOk (P : Nat → Bool) (s : Nat) (b : Option Nat) : Prop := (∀ u, b = some u → u < s ∧ P u = true ∧ ∀ x, x < s → P x = true → pcN u ≤ pcN x ∧ (pcN x = pcN u → u ≤ x)) ∧ (b = none → ∀ x, x < s → P x = false)
theorem wiF_ok {P : Nat → Bool} (f : Nat) : ∀ s b, wiOk P s b → wiOk P (s + f) (wiF P f s b) := by
  induction f with
  | zero => intro s b h; exact h
  | succ f ih =>
    intro s b h
    have e : s + (f + 1) = s + 1 + f := by omega
    rw [e]
    apply ih
    obtain ⟨h1, h2⟩ := h
    by_cases hc : P s = true ∧ ∀ u, b = some u → pcN s < pcN u
    · rw [if_pos hc]
      refine ⟨?_, fun e => by cases e⟩
      intro u hu
      cases hu
      refine ⟨by omega, hc.1, ?_⟩
      intro x hx hP
      by_cases exs : x = s
      · subst exs; exact ⟨Nat.le_refl _, fun _ => Nat.le_refl _⟩
      · cases hb : b with
        | none =>
          have := h2 hb x (by omega)
          rw [this] at hP
          cases hP
        | some w =>
          have h3 := hc.2 w hb
          have h4 := (h1 w hb).2.2 x (by omega) hP
          exact ⟨by omega, fun e => by omega⟩
    · rw [if_neg hc]
      refine ⟨?_, ?_⟩
      · intro u hu
        obtain ⟨a1, a2, a3⟩ := h1 u hu
        refine ⟨by omega, a2, ?_⟩
        intro x hx hP
        by_cases exs : x = s
        · subst exs
          have hn : ¬ pcN x < pcN u := by
            intro hlt
            apply hc
            refine ⟨hP, ?_⟩
            intro w hw
            rw [hu] at hw
            cases hw
            exact hlt
          exact ⟨by omega, fun _ => by omega⟩
        · exact a3 x (by omega) hP
      · intro hb x hx
        by_cases exs : x = s
        · subst exs
          cases hP : P x with
          | false => rfl
          | true => exact absurd ⟨hP, fun u hu => by rw [hb] at hu; cases hu⟩ hc
        · exact h2 hb x (by omega)
theorem wiOk_uniq {P : Nat → Bool} {s : Nat} {b b' : Option Nat} (h : wiOk P s b) (h' : wiOk P s b') : b = b' := by
  cases b with
  | none =>
    cases b' with
    | none => rfl
    | some u =>
      obtain ⟨a1, a2, _⟩ := h'.1 u rfl
      have := h.2 rfl u a1
      rw [this] at a2
      cases a2
  | some w =>
    obtain ⟨c1, c2, c3⟩ := h.1 w rfl
    cases b' with
    | none =>
      have := h'.2 rfl w c1
      rw [this] at c2
      cases c2
    | some u =>
      obtain ⟨a1, a2, a3⟩ := h'.1 u rfl
      have x1 := c3 u a1 a2
      have x2 := a3 w c1 c2
      have e : pcN u = pcN w := by omega
      have y1 := x1.2 e
      have y2 := x2.2 e.symm
      rw [show w = u by omega]
/-- two predicates with the same least of the fewest: Q speaks of some of P's, and whoever P speaks of and Q does not has one with fewer -/
theorem wi_same {P Q : Nat → Bool} {s s' : Nat} {b : Option Nat} (h : wiOk P s b) (hs : s' ≤ s) (hQP : ∀ x, x < s' → Q x = true → P x = true) (hPQ : ∀ x, x < s → P x = true → ∃ y, y < s' ∧ Q y = true ∧ pcN y ≤ pcN x ∧ (pcN y = pcN x → y = x)) : wiOk Q s' b := by
  obtain ⟨h1, h2⟩ := h
  refine ⟨?_, ?_⟩
  · intro u hu
    obtain ⟨a1, a2, a3⟩ := h1 u hu
    obtain ⟨y, y1, y2, y3, y4⟩ := hPQ u a1 a2
    have y5 := a3 y (by omega) (hQP y y1 y2)
    have e : y = u := y4 (by omega)
    subst e
    exact ⟨y1, y2, fun x hx hq => a3 x (by omega) (hQP x hx hq)⟩
  · intro hb x hx
    cases hq : Q x with
    | false => rfl
    | true =>
      have := h2 hb x (by omega)
      rw [hQP x hx hq] at this
      cases this
