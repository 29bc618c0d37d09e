/-! the law's beginning: both objects are made -/
def lw_L0 : List (Option Value) := [some (.ref 150), none, none, none]
theorem vA_0 : ∀ x ∈ (nw zZ0 0).2.2.2, x ∈ zZA.2.2.2 := by decide +kernel
theorem vB_0 : ∀ x ∈ (nw zZA 72).2.2.2, x ∈ zZB.2.2.2 := by decide +kernel
theorem vA_150 : 150 ∉ zZA.2.2.2 := by decide +kernel
theorem vB_150 : 150 ∉ zZB.2.2.2 := by decide +kernel
theorem vN_0 : 0 ∈ (nw zZ0 0).2.2.2 := by decide +kernel
theorem vM_0 : 0 ∈ (nw zZA 72).2.2.2 := by decide +kernel
theorem vM_72 : 72 ∈ (nw zZA 72).2.2.2 := by decide +kernel
theorem vA_72 : 72 ∉ zZA.2.2.2 := by decide +kernel
theorem rA_one {V V1 : List Nat} {a : Nat} (h : a ∈ V ∨ a ∉ V1) : ∀ v ∈ ([.ref a] : List Value), rA V V1 v := by
  intro v hv y hy
  rcases List.mem_singleton.mp hv with rfl
  cases hy
  exact h
/-- what a row of locals holds -/
theorem ls_all {P : Value → Prop} : ∀ (ls : List (Option Value)), (∀ o ∈ ls, ∀ v, o = some v → P v) → ∀ (j : Nat) (v : Value), ls[j]? = some (some v) → P v := fun _ h _ v hj => h _ (List.mem_of_getElem? hj) v rfl
theorem lw_all {p : Program} {l : Launch} {e : Env} {s : State} {m : MethodId} {below : List Frame} {meth : Method} {c : Code} {D : va_G} {cs : Nat → ClassId} {A : Nat → Prop} {ψ φ0 : Nat → Nat} {b L : Nat} {xs : Nat → Int32} (C : lwC p s m meth c D cs A ψ φ0 b L xs) (hL3 : L ≤ 3072) : LJ p l e s m below meth c D cs A ψ φ0 b 0 0 0 lw_L0 [] zZ0 := by
  refine J_new (pc := 0) (ci := 11) (a := 0) C rfl (by decide) List.not_mem_nil (by omega) (fun x hx => absurd hx List.not_mem_nil) trivial (ls_all _ ?_) ccL_7 ci_11 cn_11 ⟨by decide, by decide⟩ (dk_L_0 (0, .new 7, 3) (List.mem_of_getElem? (i := 0) rfl)) ?_
  · intro o ho v hv
    unfold lw_L0 at ho
    simp only [List.mem_cons, List.not_mem_nil, or_false] at ho
    rcases ho with rfl | rfl | rfl | rfl
    · cases hv; intro c; cases c
    · cases hv
    · cases hv
    · cases hv
  refine J_dup (pc := 3) C (dk_L_0 (3, .dup, 1) (List.mem_of_getElem? (i := 1) rfl)) ?_
  refine J_callC (pc := 4) (st := [.ref 0]) C st_A.1 vA_0 (rA_one (Or.inl vN_0)) (ls_all _ ?_) mi_X11_init lmL_9 ⟨by decide, by decide⟩ rfl ⟨by decide, by decide⟩ (dk_L_0 (4, .invokespecial 9, 3) (List.mem_of_getElem? (i := 2) rfl)) ?_
  · intro o ho v hv
    unfold lw_L0 at ho
    simp only [List.mem_cons, List.not_mem_nil, or_false] at ho
    rcases ho with rfl | rfl | rfl | rfl
    · cases hv; intro c hc; cases hc; exact Or.inr vA_150
    · cases hv
    · cases hv
    · cases hv
  refine J_astore (pc := 7) C (i := 1) rfl (by omega) rfl (dk_L_0 (7, .astore_n 1, 1) (List.mem_of_getElem? (i := 3) rfl)) ?_
  show LJ p l e s m below meth c D cs A ψ φ0 b _ _ 8 [some (.ref 150), some (.ref 0), none, none] [] zZA
  refine J_new (pc := 8) (ci := 12) (a := 72) C rfl (by decide) vA_72 (by omega) (AV_cl st_A.2) trivial (ls_all _ ?_) ccL_10 ci_12 cn_12 ⟨by decide, by decide⟩ (dk_L_0 (8, .new 10, 3) (List.mem_of_getElem? (i := 4) rfl)) ?_
  · intro o ho v hv
    simp only [List.mem_cons, List.not_mem_nil, or_false] at ho
    rcases ho with rfl | rfl | rfl | rfl
    · cases hv; intro c; cases c
    · cases hv; intro c; cases c
    · cases hv
    · cases hv
  refine J_dup (pc := 11) C (dk_L_0 (11, .dup, 1) (List.mem_of_getElem? (i := 5) rfl)) ?_
  refine J_callC (pc := 12) (st := [.ref 72]) C st_B.1 vB_0 (rA_one (Or.inl vM_72)) (ls_all _ ?_) mi_X12_init lmL_12 ⟨by decide, by decide⟩ rfl ⟨by decide, by decide⟩ (dk_L_0 (12, .invokespecial 12, 3) (List.mem_of_getElem? (i := 6) rfl)) ?_
  · intro o ho v hv
    simp only [List.mem_cons, List.not_mem_nil, or_false] at ho
    rcases ho with rfl | rfl | rfl | rfl
    · cases hv; intro c hc; cases hc; exact Or.inr vB_150
    · cases hv; intro c hc; cases hc; exact Or.inl vM_0
    · cases hv
    · cases hv
  refine J_astore (pc := 15) C (i := 2) rfl (by omega) rfl (dk_L_0 (15, .astore_n 2, 1) (List.mem_of_getElem? (i := 7) rfl)) ?_
  refine J_iconst (pc := 16) C (v := 0) (by decide) (dk_L_0 (16, .iconst 0, 1) (List.mem_of_getElem? (i := 8) rfl)) ?_
  refine J_istore (pc := 17) C (i := 3) rfl (by omega) rfl (dk_L_0 (17, .istore_n 3, 1) (List.mem_of_getElem? (i := 9) rfl)) ?_
  refine J_eqv st_eqv ?_
  exact lw_loop C hL3 512 (false, false) (zZB.1, zZB.2.1) 0 _ _ st_Inv (by omega) (by omega) ⟨by decide, by decide⟩
