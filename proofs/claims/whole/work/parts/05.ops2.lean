/-! THE INSTRUCTIONS: stores, branches, switches, returns -/
def fIst {μ : Type} (n i : Nat) : zF μ := fun ls st M => match st with
  | .int x :: st => some (zpl ls i, (n, ls.set i (some (.int x)), st, M), none)
  | _ => none
def fAst {μ : Type} (n i : Nat) : zF μ := fun ls st M => match st with
  | .ref x :: st => some (zpl ls i, (n, ls.set i (some (.ref x)), st, M), none)
  | _ => none
def fLst {μ : Type} (n i : Nat) : zF μ := fun ls st M => match st with
  | .long x :: st => some (zpl ls i, (n, (ls.set i (some (.long x))).set (i + 1) none, st, M), none)
  | _ => none
def fInc {μ : Type} (n i : Nat) (c : Int32) : zF μ := fun ls st M => match ls[i]? with
  | some (some (.int x)) => some (zpl ls i, (n, ls.set i (some (.int (x + c))), st, M), none)
  | _ => none
def fGo {μ : Type} (n : Nat) : zF μ := fun ls st M => some (true, (n, ls, st, M), none)
/-- a test of one int: t if it holds, else n -/
def fIf {μ : Type} (t n : Nat) (c : Int32 → Bool) : zF μ := fun ls st M => match st with
  | .int x :: st => some (c x, (t, ls, st, M), some (n, ls, st, M))
  | _ => none
def fCm {μ : Type} (t n : Nat) (c : Int32 → Int32 → Bool) : zF μ := fun ls st M => match st with
  | .int y :: .int x :: st => some (c x y, (t, ls, st, M), some (n, ls, st, M))
  | _ => none
/-- null: t, else n -/
def fNul {μ : Type} (t n : Nat) : zF μ := fun ls st M => match st with
  | .null :: st => some (true, (t, ls, st, M), none)
  | .ref _ :: st => some (true, (n, ls, st, M), none)
  | _ => none
def cEq0 (x : Int32) : Bool := decide (x = 0)
def cLt0 (x : Int32) : Bool := decide (x < 0)
def cGt0 (x : Int32) : Bool := decide (0 < x)
def cEq (x y : Int32) : Bool := decide (x = y)
def cLt (x y : Int32) : Bool := decide (x < y)
def cGt (x y : Int32) : Bool := decide (y < x)
section ZB
variable {μ : Type} {emb : μ → ZM} {own nm : String} {cc : ByteArray} {nL : Nat} {ret : Option FieldType} {d mc ms : Nat} {V0 : List Nat} {cells slots : Nat} {pc : Nat}
theorem s_istore {i : Nat} (hi : i < nL) (hd : decode cc pc = .ok (.istore i, 2)) : zOk emb own nm cc nL ret d mc ms V0 cells slots pc (oS (fIst (pc + 2) i)) := by
  refine oS_ok (fun ls st M b q o hf r M' h1 h2 => ?_)
  unfold fIst at hf
  split at hf
  next x st =>
    simp only [Option.some.injEq, Prod.mk.injEq] at hf
    obtain ⟨hb, hq, ho⟩ := hf
    subst hq
    cases b with
    | false => obtain ⟨q2, e, -⟩ := h2 rfl; rw [← ho] at e; cases e
    | true =>
      intro p l e s m args below meth c D cs A ψ φ0 φ H locs lsM hF hA hP hD hS hL
      exact lv_istore hF.1 hF.2.1 hd (zLc_has hL) hi rfl (fun ls' hl => h1 rfl p l e s m args below meth c D cs A ψ φ0 φ H locs ls' hF hA hP hD hS (zLc_st1 (v := .int x) hb hl))
  next => cases hf
theorem s_istore_n {j : Fin 4} {i : Nat} (hj : (j : Nat) = i) (hi : i < nL) (hd : decode cc pc = .ok (.istore_n j, 1)) : zOk emb own nm cc nL ret d mc ms V0 cells slots pc (oS (fIst (pc + 1) i)) := by
  refine oS_ok (fun ls st M b q o hf r M' h1 h2 => ?_)
  unfold fIst at hf
  split at hf
  next x st =>
    simp only [Option.some.injEq, Prod.mk.injEq] at hf
    obtain ⟨hb, hq, ho⟩ := hf
    subst hq
    cases b with
    | false => obtain ⟨q2, e, -⟩ := h2 rfl; rw [← ho] at e; cases e
    | true =>
      intro p l e s m args below meth c D cs A ψ φ0 φ H locs lsM hF hA hP hD hS hL
      exact lv_istore_n hF.1 hF.2.1 hd hj (zLc_has hL) hi rfl (fun ls' hl => h1 rfl p l e s m args below meth c D cs A ψ φ0 φ H locs ls' hF hA hP hD hS (zLc_st1 (v := .int x) hb hl))
  next => cases hf
theorem s_astore {i : Nat} (hi : i < nL) (hd : decode cc pc = .ok (.astore i, 2)) : zOk emb own nm cc nL ret d mc ms V0 cells slots pc (oS (fAst (pc + 2) i)) := by
  refine oS_ok (fun ls st M b q o hf r M' h1 h2 => ?_)
  unfold fAst at hf
  split at hf
  next x st =>
    simp only [Option.some.injEq, Prod.mk.injEq] at hf
    obtain ⟨hb, hq, ho⟩ := hf
    subst hq
    cases b with
    | false => obtain ⟨q2, e, -⟩ := h2 rfl; rw [← ho] at e; cases e
    | true =>
      intro p l e s m args below meth c D cs A ψ φ0 φ H locs lsM hF hA hP hD hS hL
      exact lv_astore hF.1 hF.2.1 hd (zLc_has hL) hi rfl (fun ls' hl => h1 rfl p l e s m args below meth c D cs A ψ φ0 φ H locs ls' hF hA hP hD hS (zLc_st1 (v := .ref x) hb hl))
  next => cases hf
theorem s_astore_n {j : Fin 4} {i : Nat} (hj : (j : Nat) = i) (hi : i < nL) (hd : decode cc pc = .ok (.astore_n j, 1)) : zOk emb own nm cc nL ret d mc ms V0 cells slots pc (oS (fAst (pc + 1) i)) := by
  refine oS_ok (fun ls st M b q o hf r M' h1 h2 => ?_)
  unfold fAst at hf
  split at hf
  next x st =>
    simp only [Option.some.injEq, Prod.mk.injEq] at hf
    obtain ⟨hb, hq, ho⟩ := hf
    subst hq
    cases b with
    | false => obtain ⟨q2, e, -⟩ := h2 rfl; rw [← ho] at e; cases e
    | true =>
      intro p l e s m args below meth c D cs A ψ φ0 φ H locs lsM hF hA hP hD hS hL
      exact lv_astore_n hF.1 hF.2.1 hd hj (zLc_has hL) hi rfl (fun ls' hl => h1 rfl p l e s m args below meth c D cs A ψ φ0 φ H locs ls' hF hA hP hD hS (zLc_st1 (v := .ref x) hb hl))
  next => cases hf
theorem s_lstore_n {j : Fin 4} {i : Nat} (hj : (j : Nat) = i) (hi : i + 1 < nL) (hd : decode cc pc = .ok (.lstore_n j, 1)) : zOk emb own nm cc nL ret d mc ms V0 cells slots pc (oS (fLst (pc + 1) i)) := by
  refine oS_ok (fun ls st M b q o hf r M' h1 h2 => ?_)
  unfold fLst at hf
  split at hf
  next x st =>
    simp only [Option.some.injEq, Prod.mk.injEq] at hf
    obtain ⟨hb, hq, ho⟩ := hf
    subst hq
    cases b with
    | false => obtain ⟨q2, e, -⟩ := h2 rfl; rw [← ho] at e; cases e
    | true =>
      intro p l e s m args below meth c D cs A ψ φ0 φ H locs lsM hF hA hP hD hS hL
      exact lv_lstore_n hF.1 hF.2.1 hd hj (zLc_has hL) hi rfl (fun ls' hl => h1 rfl p l e s m args below meth c D cs A ψ φ0 φ H locs ls' hF hA hP hD hS (zLc_st2 (v := .long x) hb hl))
  next => cases hf
theorem s_iinc {i : Nat} {n : Int} {k : Int32} (hk : Int32.ofInt n = k) (hi : i < nL) (hd : decode cc pc = .ok (.iinc i n, 3)) : zOk emb own nm cc nL ret d mc ms V0 cells slots pc (oS (fInc (pc + 3) i k)) := by
  refine oS_ok (fun ls st M b q o hf r M' h1 h2 => ?_)
  unfold fInc at hf
  split at hf
  next x hx =>
    simp only [Option.some.injEq, Prod.mk.injEq] at hf
    obtain ⟨hb, hq, ho⟩ := hf
    subst hq
    cases b with
    | false => obtain ⟨q2, e, -⟩ := h2 rfl; rw [← ho] at e; cases e
    | true =>
      intro p l e s m args below meth c D cs A ψ φ0 φ H locs lsM hF hA hP hD hS hL
      obtain ⟨j, hj⟩ := List.getElem?_of_mem (zas_mem (φ := φ) hx)
      exact lv_iinc (k := j) hF.1 hF.2.1 hd (zLc_has hL) hj (by rw [hk]) hi rfl (fun ls' hl => h1 rfl p l e s m args below meth c D cs A ψ φ0 φ H locs ls' hF hA hP hD hS (zLc_st1 (v := .int (x + k)) hb hl))
  next => cases hf
theorem s_goto {off : Int} {t : Nat} (ht : (pc : Int) + off = (t : Int)) (hd : decode cc pc = .ok (.goto off, 3)) : zOk emb own nm cc nL ret d mc ms V0 cells slots pc (oS (fGo t)) := by
  refine oS_ok (fun ls st M b q o hf r M' h1 h2 => ?_)
  unfold fGo at hf
  simp only [Option.some.injEq, Prod.mk.injEq] at hf
  obtain ⟨hb, hq, ho⟩ := hf
  subst hb; subst hq
  intro p l e s m args below meth c D cs A ψ φ0 φ H locs lsM hF hA hP hD hS hL
  exact lv_goto hF.1 hF.2.1 hd ht (h1 rfl p l e s m args below meth c D cs A ψ φ0 φ H locs lsM hF hA hP hD hS hL)
theorem fIf_ok {t n : Nat} {g : Int32 → Bool} (h : ∀ (x : Int32) (p : Program) (l : Launch) (e : Env) (R : Room) (s : State) (m : MethodId) (args : Array Value) (below : List Frame) (meth : Method) (c : Code) (H : Heap) (locs : List Loc) (cells slots : Nat) (Q : State → Prop) (ls : Array Slot) (rest : List Value), p.tables.exec = Jvm.exec → c.code = cc → (g x = true → W p l e R s m args below meth c H locs cells slots Q (F0 m t ls rest)) → (g x = false → W p l e R s m args below meth c H locs cells slots Q (F0 m n ls rest)) → W p l e R s m args below meth c H locs cells slots Q (F0 m pc ls (.int x :: rest))) : zOk emb own nm cc nL ret d mc ms V0 cells slots pc (oS (fIf t n g)) := by
  refine oS_ok (fun ls st M b q o hf r M' h1 h2 => ?_)
  unfold fIf at hf
  split at hf
  next x st =>
    simp only [Option.some.injEq, Prod.mk.injEq] at hf
    obtain ⟨hb, hq, ho⟩ := hf
    subst hq; subst ho
    intro p l e s m args below meth c D cs A ψ φ0 φ H locs lsM hF hA hP hD hS hL
    refine h x p l e _ s m args below meth c H locs _ _ _ lsM _ hF.1 hF.2.1 (fun hg => h1 (by rw [← hb]; exact hg) p l e s m args below meth c D cs A ψ φ0 φ H locs lsM hF hA hP hD hS hL) (fun hg => ?_)
    obtain ⟨q2, e1, e2⟩ := h2 (by rw [← hb]; exact hg)
    cases e1
    exact e2 p l e s m args below meth c D cs A ψ φ0 φ H locs lsM hF hA hP hD hS hL
  next => cases hf
theorem fCm_ok {t n : Nat} {g : Int32 → Int32 → Bool} (h : ∀ (x y : Int32) (p : Program) (l : Launch) (e : Env) (R : Room) (s : State) (m : MethodId) (args : Array Value) (below : List Frame) (meth : Method) (c : Code) (H : Heap) (locs : List Loc) (cells slots : Nat) (Q : State → Prop) (ls : Array Slot) (rest : List Value), p.tables.exec = Jvm.exec → c.code = cc → (g x y = true → W p l e R s m args below meth c H locs cells slots Q (F0 m t ls rest)) → (g x y = false → W p l e R s m args below meth c H locs cells slots Q (F0 m n ls rest)) → W p l e R s m args below meth c H locs cells slots Q (F0 m pc ls (.int y :: .int x :: rest))) : zOk emb own nm cc nL ret d mc ms V0 cells slots pc (oS (fCm t n g)) := by
  refine oS_ok (fun ls st M b q o hf r M' h1 h2 => ?_)
  unfold fCm at hf
  split at hf
  next y x st =>
    simp only [Option.some.injEq, Prod.mk.injEq] at hf
    obtain ⟨hb, hq, ho⟩ := hf
    subst hq; subst ho
    intro p l e s m args below meth c D cs A ψ φ0 φ H locs lsM hF hA hP hD hS hL
    refine h x y p l e _ s m args below meth c H locs _ _ _ lsM _ hF.1 hF.2.1 (fun hg => h1 (by rw [← hb]; exact hg) p l e s m args below meth c D cs A ψ φ0 φ H locs lsM hF hA hP hD hS hL) (fun hg => ?_)
    obtain ⟨q2, e1, e2⟩ := h2 (by rw [← hb]; exact hg)
    cases e1
    exact e2 p l e s m args below meth c D cs A ψ φ0 φ H locs lsM hF hA hP hD hS hL
  next => cases hf
theorem s_ifeq {off : Int} {t : Nat} (ht : (pc : Int) + off = (t : Int)) (hd : decode cc pc = .ok (.ifCond .eq off, 3)) : zOk emb own nm cc nL ret d mc ms V0 cells slots pc (oS (fIf t (pc + 3) cEq0)) := fIf_ok (fun _ _ _ _ _ _ _ _ _ _ _ _ _ _ _ _ _ _ hx hb kt kf => lv_if_eq hx hb hd ht (fun h => kt (by simpa [cEq0] using h)) (fun h => kf (by simpa [cEq0] using h)))
theorem s_ifne {off : Int} {t : Nat} (ht : (pc : Int) + off = (t : Int)) (hd : decode cc pc = .ok (.ifCond .ne off, 3)) : zOk emb own nm cc nL ret d mc ms V0 cells slots pc (oS (fIf (pc + 3) t cEq0)) := fIf_ok (fun _ _ _ _ _ _ _ _ _ _ _ _ _ _ _ _ _ _ hx hb kt kf => lv_if_ne hx hb hd ht (fun h => kf (by simpa [cEq0] using h)) (fun h => kt (by simpa [cEq0] using h)))
theorem s_iflt {off : Int} {t : Nat} (ht : (pc : Int) + off = (t : Int)) (hd : decode cc pc = .ok (.ifCond .lt off, 3)) : zOk emb own nm cc nL ret d mc ms V0 cells slots pc (oS (fIf t (pc + 3) cLt0)) := fIf_ok (fun _ _ _ _ _ _ _ _ _ _ _ _ _ _ _ _ _ _ hx hb kt kf => lv_if_lt hx hb hd ht (fun h => kt (decide_eq_true h)) (fun h => kf (decide_eq_false h)))
theorem s_ifge {off : Int} {t : Nat} (ht : (pc : Int) + off = (t : Int)) (hd : decode cc pc = .ok (.ifCond .ge off, 3)) : zOk emb own nm cc nL ret d mc ms V0 cells slots pc (oS (fIf (pc + 3) t cLt0)) := fIf_ok (fun _ _ _ _ _ _ _ _ _ _ _ _ _ _ _ _ _ _ hx hb kt kf => lv_if_ge hx hb hd ht (fun h => kf (decide_eq_false (Int32.not_lt.mpr h))) (fun h => kt (decide_eq_true (Int32.not_le.mp h))))
theorem s_ifgt {off : Int} {t : Nat} (ht : (pc : Int) + off = (t : Int)) (hd : decode cc pc = .ok (.ifCond .gt off, 3)) : zOk emb own nm cc nL ret d mc ms V0 cells slots pc (oS (fIf t (pc + 3) cGt0)) := fIf_ok (fun _ _ _ _ _ _ _ _ _ _ _ _ _ _ _ _ _ _ hx hb kt kf => lv_if_gt hx hb hd ht (fun h => kt (decide_eq_true h)) (fun h => kf (decide_eq_false h)))
theorem s_ifle {off : Int} {t : Nat} (ht : (pc : Int) + off = (t : Int)) (hd : decode cc pc = .ok (.ifCond .le off, 3)) : zOk emb own nm cc nL ret d mc ms V0 cells slots pc (oS (fIf (pc + 3) t cGt0)) := fIf_ok (fun _ _ _ _ _ _ _ _ _ _ _ _ _ _ _ _ _ _ hx hb kt kf => lv_if_le hx hb hd ht (fun h => kf (decide_eq_false (Int32.not_lt.mpr h))) (fun h => kt (decide_eq_true (Int32.not_le.mp h))))
theorem s_cmeq {off : Int} {t : Nat} (ht : (pc : Int) + off = (t : Int)) (hd : decode cc pc = .ok (.if_icmp .eq off, 3)) : zOk emb own nm cc nL ret d mc ms V0 cells slots pc (oS (fCm t (pc + 3) cEq)) := fCm_ok (fun _ _ _ _ _ _ _ _ _ _ _ _ _ _ _ _ _ _ _ hx hb kt kf => lv_icmp_eq hx hb hd ht (fun h => kt (decide_eq_true h)) (fun h => kf (decide_eq_false h)))
theorem s_cmne {off : Int} {t : Nat} (ht : (pc : Int) + off = (t : Int)) (hd : decode cc pc = .ok (.if_icmp .ne off, 3)) : zOk emb own nm cc nL ret d mc ms V0 cells slots pc (oS (fCm (pc + 3) t cEq)) := fCm_ok (fun _ _ _ _ _ _ _ _ _ _ _ _ _ _ _ _ _ _ _ hx hb kt kf => lv_icmp_ne hx hb hd ht (fun h => kf (decide_eq_false h)) (fun h => kt (decide_eq_true h)))
theorem s_cmlt {off : Int} {t : Nat} (ht : (pc : Int) + off = (t : Int)) (hd : decode cc pc = .ok (.if_icmp .lt off, 3)) : zOk emb own nm cc nL ret d mc ms V0 cells slots pc (oS (fCm t (pc + 3) cLt)) := fCm_ok (fun _ _ _ _ _ _ _ _ _ _ _ _ _ _ _ _ _ _ _ hx hb kt kf => lv_icmp_lt hx hb hd ht (fun h => kt (decide_eq_true h)) (fun h => kf (decide_eq_false h)))
theorem s_cmge {off : Int} {t : Nat} (ht : (pc : Int) + off = (t : Int)) (hd : decode cc pc = .ok (.if_icmp .ge off, 3)) : zOk emb own nm cc nL ret d mc ms V0 cells slots pc (oS (fCm (pc + 3) t cLt)) := fCm_ok (fun _ _ _ _ _ _ _ _ _ _ _ _ _ _ _ _ _ _ _ hx hb kt kf => lv_icmp_ge hx hb hd ht (fun h => kf (decide_eq_false (Int32.not_lt.mpr h))) (fun h => kt (decide_eq_true (Int32.not_le.mp h))))
theorem s_cmgt {off : Int} {t : Nat} (ht : (pc : Int) + off = (t : Int)) (hd : decode cc pc = .ok (.if_icmp .gt off, 3)) : zOk emb own nm cc nL ret d mc ms V0 cells slots pc (oS (fCm t (pc + 3) cGt)) := fCm_ok (fun _ _ _ _ _ _ _ _ _ _ _ _ _ _ _ _ _ _ _ hx hb kt kf => lv_icmp_gt hx hb hd ht (fun h => kt (decide_eq_true h)) (fun h => kf (decide_eq_false h)))
theorem s_cmle {off : Int} {t : Nat} (ht : (pc : Int) + off = (t : Int)) (hd : decode cc pc = .ok (.if_icmp .le off, 3)) : zOk emb own nm cc nL ret d mc ms V0 cells slots pc (oS (fCm (pc + 3) t cGt)) := fCm_ok (fun _ _ _ _ _ _ _ _ _ _ _ _ _ _ _ _ _ _ _ hx hb kt kf => lv_icmp_le hx hb hd ht (fun h => kf (decide_eq_false (Int32.not_lt.mpr h))) (fun h => kt (decide_eq_true (Int32.not_le.mp h))))
theorem s_ifnull {off : Int} {t : Nat} (ht : (pc : Int) + off = (t : Int)) (hd : decode cc pc = .ok (.ifnull off, 3)) : zOk emb own nm cc nL ret d mc ms V0 cells slots pc (oS (fNul t (pc + 3))) := by
  refine oS_ok (fun ls st M b q o hf r M' h1 h2 => ?_)
  unfold fNul at hf
  split at hf
  next st =>
    simp only [Option.some.injEq, Prod.mk.injEq] at hf
    obtain ⟨hb, hq, ho⟩ := hf
    subst hb; subst hq
    intro p l e s m args below meth c D cs A ψ φ0 φ H locs lsM hF hA hP hD hS hL
    exact lv_ifnullN hF.1 hF.2.1 hd ht (h1 rfl p l e s m args below meth c D cs A ψ φ0 φ H locs lsM hF hA hP hD hS hL)
  next x st =>
    simp only [Option.some.injEq, Prod.mk.injEq] at hf
    obtain ⟨hb, hq, ho⟩ := hf
    subst hb; subst hq
    intro p l e s m args below meth c D cs A ψ φ0 φ H locs lsM hF hA hP hD hS hL
    exact lv_ifnull hF.1 hF.2.1 hd (h1 rfl p l e s m args below meth c D cs A ψ φ0 φ H locs lsM hF hA hP hD hS hL)
  next => cases hf
theorem s_ifnonnull {off : Int} {t : Nat} (ht : (pc : Int) + off = (t : Int)) (hd : decode cc pc = .ok (.ifnonnull off, 3)) : zOk emb own nm cc nL ret d mc ms V0 cells slots pc (oS (fNul (pc + 3) t)) := by
  refine oS_ok (fun ls st M b q o hf r M' h1 h2 => ?_)
  unfold fNul at hf
  split at hf
  next st =>
    simp only [Option.some.injEq, Prod.mk.injEq] at hf
    obtain ⟨hb, hq, ho⟩ := hf
    subst hb; subst hq
    intro p l e s m args below meth c D cs A ψ φ0 φ H locs lsM hF hA hP hD hS hL
    exact lv_ifnonnullN hF.1 hF.2.1 hd (h1 rfl p l e s m args below meth c D cs A ψ φ0 φ H locs lsM hF hA hP hD hS hL)
  next x st =>
    simp only [Option.some.injEq, Prod.mk.injEq] at hf
    obtain ⟨hb, hq, ho⟩ := hf
    subst hb; subst hq
    intro p l e s m args below meth c D cs A ψ φ0 φ H locs lsM hF hA hP hD hS hL
    exact lv_ifnonnull hF.1 hF.2.1 hd ht (h1 rfl p l e s m args below meth c D cs A ψ φ0 φ H locs lsM hF hA hP hD hS hL)
  next => cases hf
end ZB
/-! switches: cases from lo on, and the rest -/
def zsw {μ : Type} (nx : zK μ) (ls : List (Option Value)) (st : List Value) (M : μ) (x : Int32) (df : Nat) : List (Int32 × Nat) → Option (Option Value × μ)
  | [] => nx df ls st M
  | q :: r => bif cEq x q.1 then nx q.2 ls st M else zsw nx ls st M x df r
def oSw {μ : Type} (df : Nat) (cs : List (Int32 × Nat)) : zAct μ := fun nx ls st M => match st with
  | .int x :: st => zsw nx ls st M x df cs
  | _ => none
/-- where a switch goes -/
def zgo (x : Int32) (df : Nat) : List (Int32 × Nat) → Nat
  | [] => df
  | q :: r => bif cEq x q.1 then q.2 else zgo x df r
theorem zsw_go {μ : Type} (nx : zK μ) (ls : List (Option Value)) (st : List Value) (M : μ) (x : Int32) (df : Nat) : ∀ cs, zsw nx ls st M x df cs = nx (zgo x df cs) ls st M := by
  intro cs
  induction cs with
  | nil => rfl
  | cons q r ih =>
    unfold zsw zgo
    cases cEq x q.1 with
    | true => rfl
    | false => exact ih
theorem oSw_tl {μ : Type} (df : Nat) (cs : List (Int32 × Nat)) : zTl (oSw (μ := μ) df cs) := by
  intro ls st M
  unfold oSw
  rcases st with _ | ⟨v, st⟩
  · exact Or.inl ⟨none, fun _ => rfl⟩
  · cases v <;> first | exact Or.inl ⟨none, fun _ => rfl⟩ | exact Or.inr ⟨_, _, _, _, fun nx => zsw_go nx ls st M _ df cs⟩
/-- the targets are those of the instruction -/
def zswOk (pc : Nat) (dflt lo hi : Int) (offs : Array Int) (df : Nat) (cs : List (Int32 × Nat)) : Prop := (pc : Int) + dflt = (df : Int) ∧ ∀ x : Int32, (x.toInt < lo ∨ hi < x.toInt → zgo x df cs = df) ∧ (¬ x.toInt < lo → ¬ hi < x.toInt → ∃ off, offs[(x.toInt - lo).toNat]? = some off ∧ (pc : Int) + off = (zgo x df cs : Int))
section ZC
variable {μ : Type} {emb : μ → ZM} {own nm : String} {cc : ByteArray} {nL : Nat} {ret : Option FieldType} {d mc ms : Nat} {V0 : List Nat} {cells slots : Nat} {pc : Nat}
theorem s_tsw {dflt lo hi : Int} {offs : Array Int} {len df : Nat} {cs : List (Int32 × Nat)} (hk : zswOk pc dflt lo hi offs df cs) (hd : decode cc pc = .ok (.tableswitch dflt lo hi offs, len)) : zOk emb own nm cc nL ret d mc ms V0 cells slots pc (oSw df cs) := by
  refine ⟨oSw_tl df cs, fun nx ls st M r M' ha hn => ?_⟩
  unfold oSw at ha
  split at ha
  next x st =>
    rw [zsw_go] at ha
    have h1 := hn _ _ _ _ ha
    intro p l e s m args below meth c D cs' A ψ φ0 φ H locs lsM hF hA hP hD hS hL
    have h2 := h1 p l e s m args below meth c D cs' A ψ φ0 φ H locs lsM hF hA hP hD hS hL
    by_cases hc : x.toInt < lo ∨ hi < x.toInt
    · rw [(hk.2 x).1 hc] at h2
      exact lv_tableOut hF.1 hF.2.1 hd hc hk.1 h2
    · obtain ⟨off, o1, o2⟩ := (hk.2 x).2 (fun h => hc (Or.inl h)) (fun h => hc (Or.inr h))
      exact lv_tableIn hF.1 hF.2.1 hd (fun h => hc (Or.inl h)) (fun h => hc (Or.inr h)) o1 o2 h2
  next => cases ha
theorem s_lsw {dflt : Int} {ps : Array (Int × Int)} {len df : Nat} {cs : List (Int32 × Nat)} (hp : (ps.toList.zip (ps.toList.drop 1)).all (fun (a, next) => a.1 < next.1) = true) (hk : ∀ x : Int32, (pc : Int) + Op.lookupswitch.offset ps.toList dflt x.toInt = (zgo x df cs : Int)) (hd : decode cc pc = .ok (.lookupswitch dflt ps, len)) : zOk emb own nm cc nL ret d mc ms V0 cells slots pc (oSw df cs) := by
  refine ⟨oSw_tl df cs, fun nx ls st M r M' ha hn => ?_⟩
  unfold oSw at ha
  split at ha
  next x st =>
    rw [zsw_go] at ha
    have h1 := hn _ _ _ _ ha
    intro p l e s m args below meth c D cs' A ψ φ0 φ H locs lsM hF hA hP hD hS hL
    exact lv_lookup hF.1 hF.2.1 hd hp rfl (hk x) (h1 p l e s m args below meth c D cs' A ψ φ0 φ H locs lsM hF hA hP hD hS hL)
  next => cases ha
end ZC
/-! returns -/
def oIret {μ : Type} : zAct μ := fun _ _ st M => match st with
  | [.int x] => some (some (.int x), M)
  | _ => none
/-- of a boolean: 0 or 1 -/
def oZret {μ : Type} : zAct μ := fun _ _ st M => match st with
  | [.int x] => bif cEq (x &&& 1) x then some (some (.int x), M) else none
  | _ => none
def oVret {μ : Type} : zAct μ := fun _ _ st M => match st with
  | [] => some (none, M)
  | _ => none
def oAret {μ : Type} : zAct μ := fun _ _ st M => match st with
  | [.ref x] => some (some (.ref x), M)
  | _ => none
section ZR
variable {μ : Type} {emb : μ → ZM} {own nm : String} {cc : ByteArray} {nL : Nat} {ret : Option FieldType} {d mc ms : Nat} {V0 : List Nat} {cells slots : Nat} {pc : Nat}
theorem s_iret (hr : ret = some .int) (hc : cells = mc) (hs : slots = ms) (hd : decode cc pc = .ok (.ireturn, 1)) : zOk emb own nm cc nL ret d mc ms V0 cells slots pc oIret := by
  subst hc; subst hs; subst hr
  refine ⟨fun ls st M => Or.inl ⟨oIret (fun _ _ _ _ => none) ls st M, fun _ => rfl⟩, fun nx ls st M r M' ha hn => ?_⟩
  unfold oIret at ha
  split at ha
  next x =>
    simp only [Option.some.injEq, Prod.mk.injEq] at ha
    obtain ⟨rfl, rfl⟩ := ha
    intro p l e s m args below meth c D cs' A ψ φ0 φ H locs lsM hF hA hP hD hS hL
    exact W.iret hF.1 hF.2.1 hF.2.2.1 (fun t ht hw => ⟨φ, hA, rfl, by rw [ht]; exact hP, hD, hS.F ht⟩) (fun q hq => hS.2.2 q hq) hd (hlocks := hF.2.2.2.2.2.1)
  next => cases ha
theorem s_zret (hr : ret = some .boolean) (hc : cells = mc) (hs : slots = ms) (hd : decode cc pc = .ok (.ireturn, 1)) : zOk emb own nm cc nL ret d mc ms V0 cells slots pc oZret := by
  subst hc; subst hs; subst hr
  refine ⟨fun ls st M => Or.inl ⟨oZret (fun _ _ _ _ => none) ls st M, fun _ => rfl⟩, fun nx ls st M r M' ha hn => ?_⟩
  unfold oZret at ha
  split at ha
  next x =>
    cases hx : cEq (x &&& 1) x with
    | false => rw [hx] at ha; cases ha
    | true =>
      rw [hx] at ha
      simp only [cond_true, Option.some.injEq, Prod.mk.injEq] at ha
      obtain ⟨rfl, rfl⟩ := ha
      have hx1 : x &&& 1 = x := of_decide_eq_true hx
      intro p l e s m args below meth c D cs' A ψ φ0 φ H locs lsM hF hA hP hD hS hL
      exact W.zret (ty := .boolean) hF.1 hF.2.1 hF.2.2.1 (by simp [narrow, hx1]) (fun t ht hw => ⟨φ, hA, rfl, by rw [ht]; exact hP, hD, hS.F ht⟩) (fun q hq => hS.2.2 q hq) hd (hlocks := hF.2.2.2.2.2.1)
  next => cases ha
theorem s_vret (hr : ret = none) (hc : cells = mc) (hs : slots = ms) (hd : decode cc pc = .ok (.return_, 1)) : zOk emb own nm cc nL ret d mc ms V0 cells slots pc oVret := by
  subst hc; subst hs; subst hr
  refine ⟨fun ls st M => Or.inl ⟨oVret (fun _ _ _ _ => none) ls st M, fun _ => rfl⟩, fun nx ls st M r M' ha hn => ?_⟩
  unfold oVret at ha
  split at ha
  next =>
    simp only [Option.some.injEq, Prod.mk.injEq] at ha
    obtain ⟨rfl, rfl⟩ := ha
    intro p l e s m args below meth c D cs' A ψ φ0 φ H locs lsM hF hA hP hD hS hL
    exact W.vret hF.1 hF.2.1 hF.2.2.1 (fun t ht hw => ⟨φ, hA, rfl, by rw [ht]; exact hP, hD, hS.F ht⟩) (fun q hq => hS.2.2 q hq) hd (hlocks := hF.2.2.2.2.2.1)
  next => cases ha
theorem s_aret {nm : String} (hr : ret = some (.object nm)) (hc : cells = mc) (hs : slots = ms) (hd : decode cc pc = .ok (.areturn, 1)) : zOk emb own nm cc nL ret d mc ms V0 cells slots pc oAret := by
  subst hc; subst hs; subst hr
  refine ⟨fun ls st M => Or.inl ⟨oAret (fun _ _ _ _ => none) ls st M, fun _ => rfl⟩, fun nx ls st M r M' ha hn => ?_⟩
  unfold oAret at ha
  split at ha
  next x =>
    simp only [Option.some.injEq, Prod.mk.injEq] at ha
    obtain ⟨rfl, rfl⟩ := ha
    intro p l e s m args below meth c D cs' A ψ φ0 φ H locs lsM hF hA hP hD hS hL
    exact W.aret (v := .ref (φ x)) hF.1 hF.2.1 hF.2.2.1 (Or.inl ⟨nm, rfl⟩) (Or.inr ⟨_, rfl⟩) (fun t ht hw => ⟨φ, hA, rfl, by rw [ht]; exact hP, hD, hS.F ht⟩) (fun q hq => hS.2.2 q hq) hd (hlocks := hF.2.2.2.2.2.1)
  next => cases ha
end ZR
