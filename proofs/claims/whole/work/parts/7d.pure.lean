/-! the start as a memory between calls -/
theorem st_43f : ∀ x : Fin 101, (zS x.val).1 = 4 → x.val = 43 := by decide +kernel
theorem st_57 : ∀ x : Fin 101, (zS x.val).1 = 1 → (zcl (zS x.val).2).2.2 ≤ 57 := by decide +kernel
theorem st_eqv : zEqv zZB (zem (false, false) (zZB.1, zZB.2.1)) := by
  have av := st_B.2
  have eV : zZB.2.2.2 = [] ++ List.range' 0 (101 - 0) := av.2.1
  refine ⟨?_, zVs_nd _, fun x => ?_, fun x hx cs φ => ?_⟩
  · rw [eV]
    decide +kernel
  · have e1 : x ∈ zZB.2.2.2 ↔ x ∈ [] ∨ (0 ≤ x ∧ x < 101) := AV_mem av
    rw [e1]
    show _ ↔ x ∈ zVs (false, false)
    rw [zVs_mem]
    constructor
    · rintro (a | a)
      · cases a
      · exact Or.inl a.2
    · rintro (a | ⟨a, _⟩ | ⟨a, _⟩)
      · exact Or.inr ⟨by omega, a⟩
      · cases a
      · cases a
  · have hx2 : x < 101 := by
      rcases (AV_mem av).1 hx with a | a
      · cases a
      · exact a.2
    refine zEn_R2 rfl rfl (fun ci hs k hk hr => ?_) (fun hs k => ?_) cs φ
    · have q := st_R ⟨x, hx2⟩
      have q2 := st_57 ⟨x, hx2⟩
      dsimp only at q q2
      rw [hs] at q q2
      have hk57 := q2 rfl
      dsimp only at hk57 hk
      exact q rfl ⟨k, by omega⟩ hk hr
    · have e : x = 43 := st_43f ⟨x, hx2⟩ hs
      subst e
      rw [st_43]
      by_cases h6 : k < 6
      · have ek : k = 0 ∨ k = 1 ∨ k = 2 ∨ k = 3 ∨ k = 4 ∨ k = 5 := by omega
        rcases ek with ek | ek | ek | ek | ek | ek <;> subst ek <;> rfl
      · rw [if_neg (by omega), if_neg (by omega), if_neg (by omega), if_neg (by omega), if_neg (by omega), if_neg (by omega)]
        show none = zF0 43 k
        unfold zF0
        rw [show zRl.getD 43 [] = [some 44, some 46, some 48, some 50, some 52, some 54] from by decide +kernel, List.getD_eq_getElem?_getD, List.getElem?_eq_none (by show 6 ≤ k; omega)]
        rfl
