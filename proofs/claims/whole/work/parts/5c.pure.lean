/-! PURE ROWS: wrong hats, counted from both ends -/
def sL (f : Nat → Nat) : List Nat → Nat
  | [] => 0
  | x :: xs => f x + sL f xs
theorem sL_ext {f h : Nat → Nat} : ∀ L : List Nat, (∀ x, x ∈ L → f x = h x) → sL f L = sL h L := by
  intro L
  induction L with
  | nil => intro _; rfl
  | cons x xs ih =>
    intro H
    show f x + sL f xs = h x + sL h xs
    rw [H x (by simp), ih (fun y hy => H y (by simp [hy]))]
theorem sL_filter {f : Nat → Nat} {p : Nat → Bool} : ∀ L : List Nat, sL (fun s => if p s = true then f s else 0) L = sL f (L.filter p) := by
  intro L
  induction L with
  | nil => rfl
  | cons x xs ih =>
    show (if p x = true then f x else 0) + sL _ xs = _
    rw [ih, List.filter_cons]
    split
    · rfl
    · rw [Nat.zero_add]
theorem sL_map {f : Nat → Nat} {h : Nat → Nat} : ∀ L : List Nat, sL f (L.map h) = sL (fun x => f (h x)) L := by
  intro L
  induction L with
  | nil => rfl
  | cons x xs ih =>
    show f (h x) + sL f (xs.map h) = _
    rw [ih]
    rfl
theorem sL_add {f h : Nat → Nat} : ∀ L : List Nat, sL (fun x => f x + h x) L = sL f L + sL h L := by
  intro L
  induction L with
  | nil => rfl
  | cons x xs ih =>
    show f x + h x + sL _ xs = f x + sL f xs + (h x + sL h xs)
    rw [ih]
    omega
theorem sL_zero : ∀ L : List Nat, sL (fun _ => 0) L = 0 := by
  intro L
  induction L with
  | nil => rfl
  | cons x xs ih => show 0 + sL _ xs = 0; rw [ih]
theorem sL_swap {f : Nat → Nat → Nat} : ∀ (L O : List Nat), sL (fun s => sL (fun o => f s o) O) L = sL (fun o => sL (fun s => f s o) L) O := by
  intro L
  induction L with
  | nil => intro O; rw [show (fun o => sL (fun s => f s o) []) = (fun _ => 0) from rfl, sL_zero]; rfl
  | cons x xs ih =>
    intro O
    show sL (fun o => f x o) O + sL _ xs = _
    rw [ih O, ← sL_add]
    rfl
theorem sL_mul {f : Nat → Nat} (c : Nat) : ∀ L : List Nat, sL (fun x => c * f x) L = c * sL f L := by
  intro L
  induction L with
  | nil => rfl
  | cons x xs ih =>
    show c * f x + sL _ xs = c * (f x + sL f xs)
    rw [ih, Nat.mul_add]
/-- all sets -/
def allS : List Nat := List.range 1024
theorem shift_t : ∀ o : Fin 10, allS.filter (fun s => bt10 s o.val) = (allS.filter (fun s => !bt10 s o.val)).map (fun s => s + 2 ^ o.val) := by decide +kernel
theorem or_add {s o : Nat} (h : bt10 s o = false) : s ||| 2 ^ o = s + 2 ^ o := by
  have e1 := Nat.div_add_mod s (2 ^ o)
  have hp : 0 < 2 ^ o := Nat.pow_pos (by omega)
  have hm := Nat.mod_lt s hp
  -- bit by bit
  apply Nat.eq_of_testBit_eq
  intro i
  rw [Nat.testBit_or, Nat.testBit_two_pow]
  rw [bt_tb] at h
  by_cases e : o = i
  · subst e
    rw [h, decide_eq_true rfl, Bool.false_or]
    rw [Nat.add_comm, Nat.testBit_two_pow_add_eq, h]
    rfl
  · rw [decide_eq_false e, Bool.or_false]
    by_cases hlt : i < o
    · rw [Nat.add_comm, Nat.testBit_two_pow_add_gt hlt]
    · have hgt : o < i := by omega
      -- no carry
      rw [Nat.testBit_eq_decide_div_mod_eq, Nat.testBit_eq_decide_div_mod_eq]
      have e2 : 2 ^ i = 2 ^ (o + 1) * 2 ^ (i - (o + 1)) := by
        rw [← Nat.pow_add]
        congr 1
        omega
      rw [e2, ← Nat.div_div_eq_div_mul, ← Nat.div_div_eq_div_mul]
      have e3 : s / 2 ^ (o + 1) = (s + 2 ^ o) / 2 ^ (o + 1) := by
        rw [Nat.pow_succ, ← Nat.div_div_eq_div_mul, ← Nat.div_div_eq_div_mul, Nat.add_div_right _ hp]
        rw [Nat.testBit_eq_decide_div_mod_eq] at h
        have h' : ¬ s / 2 ^ o % 2 = 1 := of_decide_eq_false h
        omega
      rw [e3]
theorem shift_s {o : Nat} (ho : o < 10) (ψ : Nat → Nat) : sL (fun s => if bt10 s o = true then ψ s else 0) allS = sL (fun s => if (!bt10 s o) = true then ψ (s ||| 2 ^ o) else 0) allS := by
  rw [sL_filter (p := fun s => bt10 s o), shift_t ⟨o, ho⟩, sL_map, ← sL_filter (p := fun s => !bt10 s o)]
  apply sL_ext
  intro s _
  cases h : bt10 s o with
  | true => rfl
  | false => simp only [Bool.not_false, if_true]; rw [or_add h]
theorem sL_range {f : Nat → Nat} {a : Nat} (N : Nat) : sL (fun s => if s = a then f s else 0) (List.range N) = if a < N then f a else 0 := by
  have app : ∀ (f : Nat → Nat) (L K : List Nat), sL f (L ++ K) = sL f L + sL f K := by
    intro f L K
    induction L with
    | nil => show _ = 0 + _; rw [Nat.zero_add]; rfl
    | cons x xs ih => show f x + sL f (xs ++ K) = f x + sL f xs + sL f K; rw [ih, Nat.add_assoc]
  induction N with
  | zero => rfl
  | succ N ih =>
    rw [List.range_succ, app, ih]
    show _ + ((if N = a then f N else 0) + 0) = _
    by_cases e : N = a
    · subst e
      rw [if_neg (by omega), if_pos rfl, if_pos (by omega)]
      omega
    · rw [if_neg e]
      by_cases e2 : a < N
      · rw [if_pos e2, if_pos (by omega)]
        rfl
      · rw [if_neg e2, if_neg (by omega)]
/-- ways from the first end: k hats are had, the set s of them; d k h: the one numbered k may have hat h -/
def FF (d : Nat → Nat → Bool) : Nat → Nat → Nat
  | 0, _ => 1
  | k + 1, s => sL (fun h => if (bt10 s h && d k h) = true then FF d k (s - 2 ^ h) else 0) (List.range 10)
/-- ways from the last end: r are left, of the c in A, the hats of s are had -/
def BB (d : Nat → Nat → Bool) (A c : Nat) : Nat → Nat → Nat
  | 0, _ => 1
  | r + 1, s => sL (fun o => if (bt10 A o && !bt10 s o && d (c - (r + 1)) o) = true then BB d A c r (s ||| 2 ^ o) else 0) (List.range 10)
def subB (a b : Nat) : Bool := decide (dif a b = 0)
def SSk (d : Nat → Nat → Bool) (A c k : Nat) : Nat := sL (fun s => if (subB s A && decide (pcN s = k)) = true then FF d k s * BB d A c (c - k) s else 0) allS
theorem subB_i {s A : Nat} : subB s A = true ↔ ∀ t, bt10 s t = true → bt10 A t = true := by
  unfold subB
  rw [decide_eq_true_eq]
  exact dif_0
theorem sL_if {c : Bool} {f : Nat → Nat} {L : List Nat} : (if c = true then sL f L else 0) = sL (fun x => if c = true then f x else 0) L := by
  cases c with
  | true => rfl
  | false =>
    rw [if_neg (by decide), show (fun x => if false = true then f x else 0) = (fun _ => 0) from funext (fun _ => rfl), sL_zero]
theorem SS_step {d : Nat → Nat → Bool} {A c k : Nat} (hA : A < 1024) (hc : c = pcN A) (hk : k < c) : SSk d A c k = SSk d A c (k + 1) := by
  -- both are the sum over s and o
  have L : SSk d A c k = sL (fun o => sL (fun s => if (!bt10 s o) = true then (if (subB s A && decide (pcN s = k) && (bt10 A o && d k o)) = true then FF d k s * BB d A c (c - (k + 1)) (s ||| 2 ^ o) else 0) else 0) allS) (List.range 10) := by
    rw [← sL_swap]
    unfold SSk
    apply sL_ext
    intro s hs
    cases hcnd : (subB s A && decide (pcN s = k)) with
    | false =>
      rw [if_neg (by decide)]
      rw [show (fun o => if (!bt10 s o) = true then (if (false && (bt10 A o && d k o)) = true then FF d k s * BB d A c (c - (k + 1)) (s ||| 2 ^ o) else 0) else 0) = (fun _ => 0) from funext (fun o => by cases bt10 s o <;> rfl), sL_zero]
    | true =>
      rw [if_pos rfl, show c - k = (c - (k + 1)) + 1 by omega]
      show FF d k s * sL (fun o => if (bt10 A o && !bt10 s o && d (c - (c - (k + 1) + 1)) o) = true then BB d A c (c - (k + 1)) (s ||| 2 ^ o) else 0) (List.range 10) = _
      rw [← sL_mul, show c - (c - (k + 1) + 1) = k by omega]
      apply sL_ext
      intro o _
      cases bt10 A o <;> cases bt10 s o <;> cases d k o <;> simp
  have R : SSk d A c (k + 1) = sL (fun o => sL (fun s => if bt10 s o = true then (if (subB s A && decide (pcN s = k + 1) && d k o) = true then FF d k (s - 2 ^ o) * BB d A c (c - (k + 1)) s else 0) else 0) allS) (List.range 10) := by
    rw [← sL_swap]
    unfold SSk
    apply sL_ext
    intro s hs
    cases hcnd : (subB s A && decide (pcN s = k + 1)) with
    | false =>
      rw [if_neg (by decide)]
      rw [show (fun o => if bt10 s o = true then (if (false && d k o) = true then FF d k (s - 2 ^ o) * BB d A c (c - (k + 1)) s else 0) else 0) = (fun _ => 0) from funext (fun o => by cases bt10 s o <;> rfl), sL_zero]
    | true =>
      rw [if_pos rfl]
      show sL (fun h => if (bt10 s h && d k h) = true then FF d k (s - 2 ^ h) else 0) (List.range 10) * BB d A c (c - (k + 1)) s = _
      rw [Nat.mul_comm, ← sL_mul]
      apply sL_ext
      intro o _
      cases bt10 s o <;> cases d k o <;> simp [Nat.mul_comm]
  rw [L, R]
  apply sL_ext
  intro o ho
  have ho10 : o < 10 := List.mem_range.mp ho
  rw [shift_s ho10]
  apply sL_ext
  intro s hs
  have hs10 : s < 1024 := List.mem_range.mp hs
  cases hb : bt10 s o with
  | true => rfl
  | false =>
    simp only [Bool.not_false, if_true]
    have e1 : (s ||| 2 ^ o) - 2 ^ o = s := by rw [or_add hb]; omega
    have e2 : pcN (s ||| 2 ^ o) = pcN s + 1 := pc_ins s o hs10 ho10 hb
    have e3 : subB (s ||| 2 ^ o) A = (subB s A && bt10 A o) := by
      cases h1 : subB (s ||| 2 ^ o) A with
      | true =>
        have h2 := subB_i.mp h1
        have h3 : bt10 A o = true := h2 o (by rw [or_bt, p2_bt ho10, decide_eq_true rfl, Bool.or_true])
        have h4 : subB s A = true := subB_i.mpr (fun t ht => h2 t (by rw [or_bt, ht, Bool.true_or]))
        rw [h3, h4]
        rfl
      | false =>
        cases h5 : subB s A with
        | false => rfl
        | true =>
          cases h6 : bt10 A o with
          | false => rfl
          | true =>
            have : subB (s ||| 2 ^ o) A = true := by
              refine subB_i.mpr (fun t ht => ?_)
              rw [or_bt, p2_bt ho10] at ht
              by_cases e : t = o
              · subst e; exact h6
              · rw [decide_eq_false e, Bool.or_false] at ht
                exact subB_i.mp h5 t ht
            rw [this] at h1
            cases h1
    rw [e1, e2, e3, show decide (pcN s + 1 = k + 1) = decide (pcN s = k) from by rw [decide_eq_decide]; omega]
    cases subB s A <;> cases bt10 A o <;> cases decide (pcN s = k) <;> cases d k o <;> rfl
theorem pc_0 {s : Nat} (hs : s < 1024) (h : pcN s = 0) : s = 0 := by
  have := pc_sub (a := 0) (b := s) (by omega) hs (fun t ht => by rw [bt_big (a := 0) (k := 0) (by omega) (by omega)] at ht; cases ht)
  have e : pcN 0 = 0 := by decide
  exact (this.2 (by omega)).symm
/-- counted from both ends the ways are the same -/
theorem hats_same {d : Nat → Nat → Bool} {A : Nat} (hA : A < 1024) : FF d (pcN A) A = BB d A (pcN A) (pcN A) 0 := by
  have hall : ∀ k, k ≤ pcN A → SSk d A (pcN A) 0 = SSk d A (pcN A) k := by
    intro k
    induction k with
    | zero => intro _; rfl
    | succ k ih =>
      intro hk
      rw [ih (by omega)]
      exact SS_step hA rfl (by omega)
  have h0 : SSk d A (pcN A) 0 = BB d A (pcN A) (pcN A) 0 := by
    unfold SSk
    rw [sL_ext (h := fun s => if s = 0 then FF d 0 s * BB d A (pcN A) (pcN A - 0) s else 0) allS (by
      intro s hs
      have hs10 : s < 1024 := List.mem_range.mp hs
      by_cases e : s = 0
      · subst e
        rw [if_pos rfl]
        have h1 : subB 0 A = true := subB_i.mpr (fun t ht => by rw [bt_big (a := 0) (k := 0) (by omega) (by omega)] at ht; cases ht)
        have h2 : decide (pcN 0 = 0) = true := by decide
        rw [h1, h2]
        rfl
      · rw [if_neg e, decide_eq_false (fun h => e (pc_0 hs10 h)), Bool.and_false]
        rfl)]
    unfold allS
    rw [sL_range, if_pos (by omega)]
    show 1 * BB d A (pcN A) (pcN A - 0) 0 = _
    rw [Nat.one_mul, Nat.sub_zero]
  have h1 : SSk d A (pcN A) (pcN A) = FF d (pcN A) A := by
    unfold SSk
    rw [sL_ext (h := fun s => if s = A then FF d (pcN A) s * BB d A (pcN A) (pcN A - pcN A) s else 0) allS (by
      intro s hs
      have hs10 : s < 1024 := List.mem_range.mp hs
      by_cases e : s = A
      · subst e
        rw [if_pos rfl]
        have h1 : subB s s = true := subB_i.mpr (fun t ht => ht)
        rw [h1, decide_eq_true rfl]
        rfl
      · rw [if_neg e]
        cases h1 : subB s A with
        | false => rfl
        | true =>
          rw [decide_eq_false (fun h => e ((pc_sub hs10 hA (subB_i.mp h1)).2 h)), Bool.and_false]
          rfl)]
    unfold allS
    rw [sL_range, if_pos hA, Nat.sub_self]
    show FF d (pcN A) A * 1 = _
    rw [Nat.mul_one]
  rw [← h1, ← h0]
  exact (hall (pcN A) (Nat.le_refl _)).symm
