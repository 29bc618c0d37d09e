/-! the memory between calls is closed -/
theorem gd_mem {l : List (Option Nat)} {k y : Nat} (h : l.getD k none = some y) : some y ∈ l := by
  rw [List.getD_eq_getElem?_getD] at h
  cases hk : l[k]? with
  | none => rw [hk] at h; cases h
  | some o =>
    rw [hk] at h
    have e : o = some y := h
    rw [← e]
    exact List.mem_of_getElem? hk
theorem gd_row {a : Nat} {o : Option Nat} (h : o ∈ zRl.getD a []) : a < 101 ∧ zRl.getD a [] ∈ zRl := by
  rw [List.getD_eq_getElem?_getD] at h ⊢
  cases hk : zRl[a]? with
  | none => rw [hk] at h; cases h
  | some l =>
    have hl := (List.getElem?_eq_some_iff.mp hk).1
    have e : zRl.length = 101 := by decide +kernel
    exact ⟨by omega, List.mem_of_getElem? hk⟩
theorem nblt_t {a b : Nat} (h : a < b) : Nat.blt a b = true := by
  rw [Nat.blt_eq]
  exact h
theorem nblt_i {a b : Nat} (h : Nat.blt a b = true) : a < b := by
  rw [Nat.blt_eq] at h
  exact h
theorem nblt_f {a b : Nat} (h : ¬ a < b) : Nat.blt a b = false := by
  cases hb : Nat.blt a b
  · rfl
  · exact absurd (nblt_i hb) h
theorem nbeq_f {a b : Nat} (h : a ≠ b) : Nat.beq a b = false := by
  cases hb : Nat.beq a b
  · rfl
  · exact absurd (Nat.eq_of_beq_eq_true hb) h
theorem zF0_lt {a k y : Nat} (h : zF0 a k = some y) : y < 101 := by
  have q : ∀ l ∈ zRl, ∀ o ∈ l, o.all (fun y => decide (y < 101)) = true := by decide +kernel
  have m := gd_mem h
  have r := q _ (gd_row m).2 _ m
  exact of_decide_eq_true r
theorem zF0_w {a k y : Nat} (h1 : 6 ≤ a) (h2 : a < 40) (h : zF0 a k = some y) : 7 ≤ y ∧ y < 40 := by
  have q : ∀ a : Fin 40, 6 ≤ a.val → ∀ o ∈ zRl.getD a.val [], o.all (fun y => decide (7 ≤ y ∧ y < 40)) = true := by decide +kernel
  exact of_decide_eq_true (q ⟨a, h2⟩ h1 _ (gd_mem h))
theorem zVs_mem {g : zg} {x : Nat} : x ∈ zVs g ↔ x < 101 ∨ (g.1 = true ∧ 206 ≤ x ∧ x < 240) ∨ (g.2 = true ∧ 240 ≤ x ∧ x < 243) := by
  obtain ⟨u, v⟩ := g
  have e1 : x ∈ (bif u then (List.range 34).map (fun x => x + 206) else []) ↔ u = true ∧ 206 ≤ x ∧ x < 240 := by
    cases u
    · simp
    · simp only [cond_true, List.mem_map, List.mem_range, true_and]
      constructor
      · rintro ⟨a, h1, h2⟩
        omega
      · rintro ⟨h1, h2⟩
        exact ⟨x - 206, by omega, by omega⟩
  have e2 : x ∈ (bif v then [240, 241, 242] else ([] : List Nat)) ↔ v = true ∧ 240 ≤ x ∧ x < 243 := by
    cases v
    · simp
    · simp only [cond_true, List.mem_cons, List.not_mem_nil, or_false, true_and]
      omega
  show x ∈ List.range 101 ++ ((bif u then (List.range 34).map (fun x => x + 206) else []) ++ (bif v then [240, 241, 242] else [])) ↔ _
  rw [List.mem_append, List.mem_append, List.mem_range, e1, e2]
theorem zRs_in {g : zg} {x k y : Nat} (hx : x ∈ zVs g) (h : zRs g x k = some y) : y ∈ zVs g := by
  rw [zVs_mem] at hx ⊢
  obtain ⟨u, v⟩ := g
  dsimp only at hx ⊢
  unfold zRs at h
  by_cases c7 : x = 0 ∧ k = 7
  · obtain ⟨e1, e2⟩ := c7
    subst e1; subst e2
    cases u
    · cases h
    · have e : 206 = y := Option.some.inj h
      exact Or.inr (Or.inl ⟨rfl, by omega, by omega⟩)
  · by_cases c8 : x = 0 ∧ k = 8
    · obtain ⟨e1, e2⟩ := c8
      subst e1; subst e2
      cases v
      · cases h
      · have e : 240 = y := Option.some.inj h
        exact Or.inr (Or.inr ⟨rfl, by omega, by omega⟩)
    · have n7 : (Nat.beq x 0 && Nat.beq k 7) = false := by
        rw [Bool.and_eq_false_iff]
        by_cases e : x = 0
        · right
          exact nbeq_f (fun c => c7 ⟨e, c⟩)
        · left
          exact nbeq_f e
      have n8 : (Nat.beq x 0 && Nat.beq k 8) = false := by
        rw [Bool.and_eq_false_iff]
        by_cases e : x = 0
        · right
          exact nbeq_f (fun c => c8 ⟨e, c⟩)
        · left
          exact nbeq_f e
      rw [n7, n8] at h
      have h' : zFr x k = some y := h
      unfold zFr at h'
      by_cases a1 : x < 200
      · rw [nblt_t a1, bif_t] at h'
        left
        exact zF0_lt h'
      · rw [nblt_f a1, bif_f] at h'
        by_cases a2 : x < 240
        · rw [nblt_t a2, bif_t] at h'
          have h'' : (zF0 (x - 200) k).map (fun x => x + 200) = some y := h'
          cases hz : zF0 (x - 200) k with
          | none => rw [hz] at h''; cases h''
          | some z =>
            rw [hz] at h''
            have e : z + 200 = y := Option.some.inj h''
            rcases hx with hx | ⟨hu, hx⟩ | ⟨_, hx⟩
            · omega
            · have w := zF0_w (a := x - 200) (by omega) (by omega) hz
              exact Or.inr (Or.inl ⟨hu, by omega, by omega⟩)
            · omega
        · rw [nblt_f a2, bif_f] at h'
          have h'' : (bif Nat.beq x 240 && Nat.blt k 2 then some (241 + k) else none) = some y := h'
          cases hb : (Nat.beq x 240 && Nat.blt k 2)
          · rw [hb] at h''; cases h''
          · rw [hb] at h''
            have e : 241 + k = y := Option.some.inj h''
            rw [Bool.and_eq_true] at hb
            have k2 := nblt_i hb.2
            rcases hx with hx | ⟨_, hx⟩ | ⟨hv, hx⟩
            · omega
            · omega
            · exact Or.inr (Or.inr ⟨hv, by omega, by omega⟩)
theorem zCl_em {g : zg} {M : zM} : zCl (zem g M) := fun x hx k y hy => zRs_in (g := g) hx hy
theorem zVs_nd (g : zg) : (zVs g).Nodup := by
  obtain ⟨u, v⟩ := g
  cases u <;> cases v <;> decide +kernel
