/-! THE INSTRUCTIONS: stack, locals, branches, returns -/
def gC (v : Value) : List Value → Option (List Value) := fun st => some (v :: st)
def g1 (f : Int32 → Int32) : List Value → Option (List Value) := fun st => match st with
  | .int x :: st => some (.int (f x) :: st)
  | _ => none
def g2 (f : Int32 → Int32 → Int32) : List Value → Option (List Value) := fun st => match st with
  | .int y :: .int x :: st => some (.int (f x y) :: st)
  | _ => none
def gL2 (f : Int64 → Int64 → Int64) : List Value → Option (List Value) := fun st => match st with
  | .long y :: .long x :: st => some (.long (f x y) :: st)
  | _ => none
def gDup : List Value → Option (List Value) := fun st => match st with
  | .int x :: st => some (.int x :: .int x :: st)
  | .ref x :: st => some (.ref x :: .ref x :: st)
  | _ => none
def gPop : List Value → Option (List Value) := fun st => match st with
  | .int _ :: st => some st
  | .ref _ :: st => some st
  | _ => none
def gDup2 : List Value → Option (List Value) := fun st => match st with
  | .int y :: .ref x :: st => some (.int y :: .ref x :: .int y :: .ref x :: st)
  | _ => none
def gI2l : List Value → Option (List Value) := fun st => match st with
  | .int x :: st => some (.long x.toInt64 :: st)
  | _ => none
def gL2i : List Value → Option (List Value) := fun st => match st with
  | .long x :: st => some (.int x.toInt32 :: st)
  | _ => none
def gLcmp : List Value → Option (List Value) := fun st => match st with
  | .long y :: .long x :: st => some (.int (lg_cmp x y) :: st)
  | _ => none
def zushr (x y : Int32) : Int32 := (x.toUInt32 >>> (y.toUInt32 &&& Int32.toUInt32 31)).toInt32
section ZA
variable {μ : Type} {emb : μ → ZM} {own nm : String} {cc : ByteArray} {nL : Nat} {ret : Option FieldType} {d mc ms : Nat} {V0 : List Nat} {cells slots : Nat} {pc : Nat}
theorem gC_ok {n : Nat} {v : Value} (hv : ∀ φ, zSt φ v = v) (h : ∀ (p : Program) (l : Launch) (e : Env) (R : Room) (s : State) (m : MethodId) (args : Array Value) (below : List Frame) (meth : Method) (c : Code) (H : Heap) (locs : List Loc) (cells slots : Nat) (Q : State → Prop) (ls : Array Slot) (rest : List Value), p.tables.exec = Jvm.exec → c.code = cc →
      s.vm.findClass own = some m.cls → (∀ w ∈ zG, w.before args s = true) → W p l e R s m args below meth c H locs cells slots Q (F0 m n ls (v :: rest)) → W p l e R s m args below meth c H locs cells slots Q (F0 m pc ls rest)) : zOk emb own nm cc nL ret d mc ms V0 cells slots pc (oS (fSt n (gC v))) := by
  refine fSt_ok (fun st st' hg φ p l e R s m args below meth c H locs cells slots Q ls hx hb ho ht k => ?_)
  simp only [gC, Option.some.injEq] at hg
  subst hg
  rw [List.map_cons, hv] at k
  exact h p l e R s m args below meth c H locs cells slots Q ls _ hx hb ho ht k
theorem s_iconst {n : Int} {v : Int32} (hv : Int32.ofInt n = v) (hd : decode cc pc = .ok (.iconst n, 1)) : zOk emb own nm cc nL ret d mc ms V0 cells slots pc (oS (fSt (pc + 1) (gC (.int v)))) :=
  gC_ok (fun _ => rfl) (fun _ _ _ _ _ _ _ _ _ _ _ _ _ _ _ _ _ hx hb _ _ k => lv_iconst hx hb hd hv k)
theorem s_bipush {n : Int} {v : Int32} (hv : (Int8.ofInt n).toInt32 = v) (hd : decode cc pc = .ok (.bipush n, 2)) : zOk emb own nm cc nL ret d mc ms V0 cells slots pc (oS (fSt (pc + 2) (gC (.int v)))) :=
  gC_ok (fun _ => rfl) (fun _ _ _ _ _ _ _ _ _ _ _ _ _ _ _ _ _ hx hb _ _ k => lv_bipush hx hb hd hv k)
theorem s_sipush {n : Int} {v : Int32} (hv : (Int16.ofInt n).toInt32 = v) (hd : decode cc pc = .ok (.sipush n, 3)) : zOk emb own nm cc nL ret d mc ms V0 cells slots pc (oS (fSt (pc + 3) (gC (.int v)))) :=
  gC_ok (fun _ => rfl) (fun _ _ _ _ _ _ _ _ _ _ _ _ _ _ _ _ _ hx hb _ _ k => lv_sipush hx hb hd hv k)
theorem s_lconst {n : Fin 2} {v : Int64} (hv : Int64.ofNat (n : Nat) = v) (hd : decode cc pc = .ok (.lconst n, 1)) : zOk emb own nm cc nL ret d mc ms V0 cells slots pc (oS (fSt (pc + 1) (gC (.long v)))) :=
  gC_ok (fun _ => rfl) (fun _ _ _ _ _ _ _ _ _ _ _ _ _ _ _ _ _ hx hb _ _ k => lv_lconst hx hb hd hv k)
theorem s_ldc {i : Nat} {v : Int32} (hw : Jvm.Cond.constant own i v ∈ zG) (hd : decode cc pc = .ok (.ldc i, 2)) : zOk emb own nm cc nL ret d mc ms V0 cells slots pc (oS (fSt (pc + 2) (gC (.int v)))) :=
  gC_ok (fun _ => rfl) (fun _ _ _ _ _ _ _ _ _ _ _ _ _ _ _ _ _ hx hb ho ht k => lv_ldc hx hb ho (ht _ hw) hd k)
theorem s_ldcw {i : Nat} {v : Int32} (hw : Jvm.Cond.constant own i v ∈ zG) (hd : decode cc pc = .ok (.ldc_w i, 3)) : zOk emb own nm cc nL ret d mc ms V0 cells slots pc (oS (fSt (pc + 3) (gC (.int v)))) :=
  gC_ok (fun _ => rfl) (fun _ _ _ _ _ _ _ _ _ _ _ _ _ _ _ _ _ hx hb ho ht k => lv_ldcw hx hb ho (ht _ hw) hd k)
theorem s_ldc2 {i : Nat} {v : Int64} (hw : Jvm.Cond.constantLong own i v ∈ zG) (hd : decode cc pc = .ok (.ldc2_w i, 3)) : zOk emb own nm cc nL ret d mc ms V0 cells slots pc (oS (fSt (pc + 3) (gC (.long v)))) :=
  gC_ok (fun _ => rfl) (fun _ _ _ _ _ _ _ _ _ _ _ _ _ _ _ _ _ hx hb ho ht k => lv_ldc2 hx hb ho (ht _ hw) hd k)
theorem g1_ok {n : Nat} {f : Int32 → Int32} (h : ∀ (x : Int32) (p : Program) (l : Launch) (e : Env) (R : Room) (s : State) (m : MethodId) (args : Array Value) (below : List Frame) (meth : Method) (c : Code) (H : Heap) (locs : List Loc) (cells slots : Nat) (Q : State → Prop) (ls : Array Slot) (rest : List Value), p.tables.exec = Jvm.exec → c.code = cc → W p l e R s m args below meth c H locs cells slots Q (F0 m n ls (.int (f x) :: rest)) → W p l e R s m args below meth c H locs cells slots Q (F0 m pc ls (.int x :: rest))) : zOk emb own nm cc nL ret d mc ms V0 cells slots pc (oS (fSt n (g1 f))) := by
  refine fSt_ok (fun st st' hg φ p l e R s m args below meth c H locs cells slots Q ls hx hb ho ht k => ?_)
  unfold g1 at hg
  split at hg
  next x st =>
    simp only [Option.some.injEq] at hg
    subst hg
    exact h x p l e R s m args below meth c H locs cells slots Q ls _ hx hb k
  next => cases hg
theorem g2_ok {n : Nat} {f : Int32 → Int32 → Int32} (h : ∀ (x y : Int32) (p : Program) (l : Launch) (e : Env) (R : Room) (s : State) (m : MethodId) (args : Array Value) (below : List Frame) (meth : Method) (c : Code) (H : Heap) (locs : List Loc) (cells slots : Nat) (Q : State → Prop) (ls : Array Slot) (rest : List Value), p.tables.exec = Jvm.exec → c.code = cc → W p l e R s m args below meth c H locs cells slots Q (F0 m n ls (.int (f x y) :: rest)) → W p l e R s m args below meth c H locs cells slots Q (F0 m pc ls (.int y :: .int x :: rest))) : zOk emb own nm cc nL ret d mc ms V0 cells slots pc (oS (fSt n (g2 f))) := by
  refine fSt_ok (fun st st' hg φ p l e R s m args below meth c H locs cells slots Q ls hx hb ho ht k => ?_)
  unfold g2 at hg
  split at hg
  next y x st =>
    simp only [Option.some.injEq] at hg
    subst hg
    exact h x y p l e R s m args below meth c H locs cells slots Q ls _ hx hb k
  next => cases hg
theorem s_iadd (hd : decode cc pc = .ok (.iadd, 1)) : zOk emb own nm cc nL ret d mc ms V0 cells slots pc (oS (fSt (pc + 1) (g2 (fun x y => x + y)))) := g2_ok (fun _ _ _ _ _ _ _ _ _ _ _ _ _ _ _ _ _ _ _ hx hb k => lv_iadd hx hb hd k)
theorem s_isub (hd : decode cc pc = .ok (.isub, 1)) : zOk emb own nm cc nL ret d mc ms V0 cells slots pc (oS (fSt (pc + 1) (g2 (fun x y => x - y)))) := g2_ok (fun _ _ _ _ _ _ _ _ _ _ _ _ _ _ _ _ _ _ _ hx hb k => lv_isub hx hb hd k)
theorem s_imul (hd : decode cc pc = .ok (.imul, 1)) : zOk emb own nm cc nL ret d mc ms V0 cells slots pc (oS (fSt (pc + 1) (g2 (fun x y => x * y)))) := g2_ok (fun _ _ _ _ _ _ _ _ _ _ _ _ _ _ _ _ _ _ _ hx hb k => lv_imul hx hb hd k)
theorem s_iand (hd : decode cc pc = .ok (.iand, 1)) : zOk emb own nm cc nL ret d mc ms V0 cells slots pc (oS (fSt (pc + 1) (g2 (fun x y => x &&& y)))) := g2_ok (fun _ _ _ _ _ _ _ _ _ _ _ _ _ _ _ _ _ _ _ hx hb k => lv_iand hx hb hd k)
theorem s_ior (hd : decode cc pc = .ok (.ior, 1)) : zOk emb own nm cc nL ret d mc ms V0 cells slots pc (oS (fSt (pc + 1) (g2 (fun x y => x ||| y)))) := g2_ok (fun _ _ _ _ _ _ _ _ _ _ _ _ _ _ _ _ _ _ _ hx hb k => lv_ior hx hb hd k)
theorem s_ixor (hd : decode cc pc = .ok (.ixor, 1)) : zOk emb own nm cc nL ret d mc ms V0 cells slots pc (oS (fSt (pc + 1) (g2 (fun x y => x ^^^ y)))) := g2_ok (fun _ _ _ _ _ _ _ _ _ _ _ _ _ _ _ _ _ _ _ hx hb k => lv_ixor hx hb hd k)
theorem s_ishl (hd : decode cc pc = .ok (.ishl, 1)) : zOk emb own nm cc nL ret d mc ms V0 cells slots pc (oS (fSt (pc + 1) (g2 (fun x y => x <<< (y &&& 31))))) := g2_ok (fun _ _ _ _ _ _ _ _ _ _ _ _ _ _ _ _ _ _ _ hx hb k => lv_ishl hx hb hd k)
theorem s_ishr (hd : decode cc pc = .ok (.ishr, 1)) : zOk emb own nm cc nL ret d mc ms V0 cells slots pc (oS (fSt (pc + 1) (g2 (fun x y => x >>> (y &&& 31))))) := g2_ok (fun _ _ _ _ _ _ _ _ _ _ _ _ _ _ _ _ _ _ _ hx hb k => lv_ishr hx hb hd k)
theorem s_iushr (hd : decode cc pc = .ok (.iushr, 1)) : zOk emb own nm cc nL ret d mc ms V0 cells slots pc (oS (fSt (pc + 1) (g2 zushr))) := g2_ok (fun _ _ _ _ _ _ _ _ _ _ _ _ _ _ _ _ _ _ _ hx hb k => lv_iushr hx hb hd rfl k)
theorem s_ineg (hd : decode cc pc = .ok (.ineg, 1)) : zOk emb own nm cc nL ret d mc ms V0 cells slots pc (oS (fSt (pc + 1) (g1 (fun x => -x)))) := g1_ok (fun _ _ _ _ _ _ _ _ _ _ _ _ _ _ _ _ _ _ hx hb k => lv_ineg hx hb hd k)
theorem s_i2c (hd : decode cc pc = .ok (.i2c, 1)) : zOk emb own nm cc nL ret d mc ms V0 cells slots pc (oS (fSt (pc + 1) (g1 (fun x => (x.toUInt32 % 65536).toInt32)))) := g1_ok (fun _ _ _ _ _ _ _ _ _ _ _ _ _ _ _ _ _ _ hx hb k => lv_i2c hx hb hd rfl k)
theorem s_i2b (hd : decode cc pc = .ok (.i2b, 1)) : zOk emb own nm cc nL ret d mc ms V0 cells slots pc (oS (fSt (pc + 1) (g1 (fun x => x.toInt8.toInt32)))) := g1_ok (fun _ _ _ _ _ _ _ _ _ _ _ _ _ _ _ _ _ _ hx hb k => lv_i2b hx hb hd rfl k)
theorem s_dup (hd : decode cc pc = .ok (.dup, 1)) : zOk emb own nm cc nL ret d mc ms V0 cells slots pc (oS (fSt (pc + 1) gDup)) := by
  refine fSt_ok (fun st st' hg φ p l e R s m args below meth c H locs cells slots Q ls hx hb ho ht k => ?_)
  unfold gDup at hg
  split at hg
  next x st =>
    simp only [Option.some.injEq] at hg
    subst hg
    exact lv_dup hx hb hd rfl k
  next x st =>
    simp only [Option.some.injEq] at hg
    subst hg
    exact lv_dup hx hb hd rfl k
  next => cases hg
theorem s_pop (hd : decode cc pc = .ok (.pop, 1)) : zOk emb own nm cc nL ret d mc ms V0 cells slots pc (oS (fSt (pc + 1) gPop)) := by
  refine fSt_ok (fun st st' hg φ p l e R s m args below meth c H locs cells slots Q ls hx hb ho ht k => ?_)
  unfold gPop at hg
  split at hg
  next x st =>
    simp only [Option.some.injEq] at hg
    subst hg
    exact lv_pop hx hb hd rfl k
  next x st =>
    simp only [Option.some.injEq] at hg
    subst hg
    exact lv_pop hx hb hd rfl k
  next => cases hg
theorem s_dup2 (hd : decode cc pc = .ok (.dup2, 1)) : zOk emb own nm cc nL ret d mc ms V0 cells slots pc (oS (fSt (pc + 1) gDup2)) := by
  refine fSt_ok (fun st st' hg φ p l e R s m args below meth c H locs cells slots Q ls hx hb ho ht k => ?_)
  unfold gDup2 at hg
  split at hg
  next y x st =>
    simp only [Option.some.injEq] at hg
    subst hg
    exact lv_dup2_11 hx hb hd rfl rfl k
  next => cases hg
theorem s_i2l (hd : decode cc pc = .ok (.i2l, 1)) : zOk emb own nm cc nL ret d mc ms V0 cells slots pc (oS (fSt (pc + 1) gI2l)) := by
  refine fSt_ok (fun st st' hg φ p l e R s m args below meth c H locs cells slots Q ls hx hb ho ht k => ?_)
  unfold gI2l at hg
  split at hg
  next x st =>
    simp only [Option.some.injEq] at hg
    subst hg
    exact lv_i2l hx hb hd rfl k
  next => cases hg
theorem s_l2i (hd : decode cc pc = .ok (.l2i, 1)) : zOk emb own nm cc nL ret d mc ms V0 cells slots pc (oS (fSt (pc + 1) gL2i)) := by
  refine fSt_ok (fun st st' hg φ p l e R s m args below meth c H locs cells slots Q ls hx hb ho ht k => ?_)
  unfold gL2i at hg
  split at hg
  next x st =>
    simp only [Option.some.injEq] at hg
    subst hg
    exact lv_l2i hx hb hd rfl k
  next => cases hg
theorem s_lcmp (hd : decode cc pc = .ok (.lcmp, 1)) : zOk emb own nm cc nL ret d mc ms V0 cells slots pc (oS (fSt (pc + 1) gLcmp)) := by
  refine fSt_ok (fun st st' hg φ p l e R s m args below meth c H locs cells slots Q ls hx hb ho ht k => ?_)
  unfold gLcmp at hg
  split at hg
  next y x st =>
    simp only [Option.some.injEq] at hg
    subst hg
    exact W.lcmp hx hb hd k
  next => cases hg
theorem s_ladd (hd : decode cc pc = .ok (.ladd, 1)) : zOk emb own nm cc nL ret d mc ms V0 cells slots pc (oS (fSt (pc + 1) (gL2 (fun x y => x + y)))) := by
  refine fSt_ok (fun st st' hg φ p l e R s m args below meth c H locs cells slots Q ls hx hb ho ht k => ?_)
  unfold gL2 at hg
  split at hg
  next y x st =>
    simp only [Option.some.injEq] at hg
    subst hg
    exact lv_ladd hx hb hd k
  next => cases hg
theorem s_lmul (hd : decode cc pc = .ok (.lmul, 1)) : zOk emb own nm cc nL ret d mc ms V0 cells slots pc (oS (fSt (pc + 1) (gL2 (fun x y => x * y)))) := by
  refine fSt_ok (fun st st' hg φ p l e R s m args below meth c H locs cells slots Q ls hx hb ho ht k => ?_)
  unfold gL2 at hg
  split at hg
  next y x st =>
    simp only [Option.some.injEq] at hg
    subst hg
    exact lv_lmul hx hb hd k
  next => cases hg
/-! quotients -/
def fDiv {μ : Type} (n : Nat) : zF μ := fun ls st M => match st with
  | .int y :: .int x :: st => some (!decide (y = 0), (n, ls, .int (x / y) :: st, M), none)
  | _ => none
def fRem {μ : Type} (n : Nat) : zF μ := fun ls st M => match st with
  | .int y :: .int x :: st => some (!decide (y = 0), (n, ls, .int (x - x / y * y) :: st, M), none)
  | _ => none
def fLdiv {μ : Type} (n : Nat) : zF μ := fun ls st M => match st with
  | .long y :: .long x :: st => some (!decide (y = 0), (n, ls, .long (x / y) :: st, M), none)
  | _ => none
theorem s_idiv (hd : decode cc pc = .ok (.idiv, 1)) : zOk emb own nm cc nL ret d mc ms V0 cells slots pc (oS (fDiv (pc + 1))) := by
  refine oS_ok (fun ls st M b q o hf r M' h1 h2 => ?_)
  unfold fDiv at hf
  split at hf
  next y x st =>
    simp only [Option.some.injEq, Prod.mk.injEq] at hf
    obtain ⟨hb, hq, ho⟩ := hf
    subst hq
    cases b with
    | false => obtain ⟨q2, e, -⟩ := h2 rfl; rw [← ho] at e; cases e
    | true =>
      intro p l e s m args below meth c D cs A ψ φ0 φ H locs lsM hF hA hP hD hS hL
      exact lv_idiv hF.1 hF.2.1 hd (by simpa using hb) (h1 rfl p l e s m args below meth c D cs A ψ φ0 φ H locs lsM hF hA hP hD hS hL)
  next => cases hf
theorem s_irem (hd : decode cc pc = .ok (.irem, 1)) : zOk emb own nm cc nL ret d mc ms V0 cells slots pc (oS (fRem (pc + 1))) := by
  refine oS_ok (fun ls st M b q o hf r M' h1 h2 => ?_)
  unfold fRem at hf
  split at hf
  next y x st =>
    simp only [Option.some.injEq, Prod.mk.injEq] at hf
    obtain ⟨hb, hq, ho⟩ := hf
    subst hq
    cases b with
    | false => obtain ⟨q2, e, -⟩ := h2 rfl; rw [← ho] at e; cases e
    | true =>
      intro p l e s m args below meth c D cs A ψ φ0 φ H locs lsM hF hA hP hD hS hL
      exact lv_irem hF.1 hF.2.1 hd (by simpa using hb) (h1 rfl p l e s m args below meth c D cs A ψ φ0 φ H locs lsM hF hA hP hD hS hL)
  next => cases hf
theorem s_ldiv (hd : decode cc pc = .ok (.ldiv, 1)) : zOk emb own nm cc nL ret d mc ms V0 cells slots pc (oS (fLdiv (pc + 1))) := by
  refine oS_ok (fun ls st M b q o hf r M' h1 h2 => ?_)
  unfold fLdiv at hf
  split at hf
  next y x st =>
    simp only [Option.some.injEq, Prod.mk.injEq] at hf
    obtain ⟨hb, hq, ho⟩ := hf
    subst hq
    cases b with
    | false => obtain ⟨q2, e, -⟩ := h2 rfl; rw [← ho] at e; cases e
    | true =>
      intro p l e s m args below meth c D cs A ψ φ0 φ H locs lsM hF hA hP hD hS hL
      exact lv_ldiv hF.1 hF.2.1 hd (by simpa using hb) (h1 rfl p l e s m args below meth c D cs A ψ φ0 φ H locs lsM hF hA hP hD hS hL)
  next => cases hf
/-! locals -/
def fIld {μ : Type} (n i : Nat) : zF μ := fun ls st M => match ls[i]? with
  | some (some (.int x)) => some (true, (n, ls, .int x :: st, M), none)
  | _ => none
def fAld {μ : Type} (n i : Nat) : zF μ := fun ls st M => match ls[i]? with
  | some (some (.ref x)) => some (true, (n, ls, .ref x :: st, M), none)
  | _ => none
def fLld {μ : Type} (n i : Nat) : zF μ := fun ls st M => match ls[i]? with
  | some (some (.long x)) => some (true, (n, ls, .long x :: st, M), none)
  | _ => none
theorem fIld_ok {n i : Nat} (h : ∀ (x : Int32) (p : Program) (l : Launch) (e : Env) (R : Room) (s : State) (m : MethodId) (args : Array Value) (below : List Frame) (meth : Method) (c : Code) (H : Heap) (locs : List Loc) (cells slots : Nat) (Q : State → Prop) (ls : Array Slot) (rest : List Value), p.tables.exec = Jvm.exec → c.code = cc → ls[i]? = some (.val (.int x)) → W p l e R s m args below meth c H locs cells slots Q (F0 m n ls (.int x :: rest)) → W p l e R s m args below meth c H locs cells slots Q (F0 m pc ls rest)) : zOk emb own nm cc nL ret d mc ms V0 cells slots pc (oS (fIld n i)) := by
  refine oS_ok (fun ls st M b q o hf r M' h1 h2 => ?_)
  unfold fIld at hf
  split at hf
  next x hx =>
    simp only [Option.some.injEq, Prod.mk.injEq] at hf
    obtain ⟨hb, hq, ho⟩ := hf
    subst hb; subst hq
    intro p l e s m args below meth c D cs A ψ φ0 φ H locs lsM hF hA hP hD hS hL
    exact h x p l e _ s m args below meth c H locs _ _ _ lsM _ hF.1 hF.2.1 (hL.2.2 i _ hx) (h1 rfl p l e s m args below meth c D cs A ψ φ0 φ H locs lsM hF hA hP hD hS hL)
  next => cases hf
theorem s_iload {i : Nat} (hd : decode cc pc = .ok (.iload i, 2)) : zOk emb own nm cc nL ret d mc ms V0 cells slots pc (oS (fIld (pc + 2) i)) := fIld_ok (fun _ _ _ _ _ _ _ _ _ _ _ _ _ _ _ _ _ _ hx hb hl k => lv_iload hx hb hd hl k)
theorem s_iload_n {j : Fin 4} {i : Nat} (hi : (j : Nat) = i) (hd : decode cc pc = .ok (.iload_n j, 1)) : zOk emb own nm cc nL ret d mc ms V0 cells slots pc (oS (fIld (pc + 1) i)) := fIld_ok (fun _ _ _ _ _ _ _ _ _ _ _ _ _ _ _ _ _ _ hx hb hl k => lv_iload_n hx hb hd hi hl k)
theorem fAld_ok {n i : Nat} (h : ∀ (x : Nat) (p : Program) (l : Launch) (e : Env) (R : Room) (s : State) (m : MethodId) (args : Array Value) (below : List Frame) (meth : Method) (c : Code) (H : Heap) (locs : List Loc) (cells slots : Nat) (Q : State → Prop) (ls : Array Slot) (rest : List Value), p.tables.exec = Jvm.exec → c.code = cc → ls[i]? = some (.val (.ref x)) → W p l e R s m args below meth c H locs cells slots Q (F0 m n ls (.ref x :: rest)) → W p l e R s m args below meth c H locs cells slots Q (F0 m pc ls rest)) : zOk emb own nm cc nL ret d mc ms V0 cells slots pc (oS (fAld n i)) := by
  refine oS_ok (fun ls st M b q o hf r M' h1 h2 => ?_)
  unfold fAld at hf
  split at hf
  next x hx =>
    simp only [Option.some.injEq, Prod.mk.injEq] at hf
    obtain ⟨hb, hq, ho⟩ := hf
    subst hb; subst hq
    intro p l e s m args below meth c D cs A ψ φ0 φ H locs lsM hF hA hP hD hS hL
    exact h (φ x) p l e _ s m args below meth c H locs _ _ _ lsM _ hF.1 hF.2.1 (hL.2.2 i _ hx) (h1 rfl p l e s m args below meth c D cs A ψ φ0 φ H locs lsM hF hA hP hD hS hL)
  next => cases hf
theorem s_aload {i : Nat} (hd : decode cc pc = .ok (.aload i, 2)) : zOk emb own nm cc nL ret d mc ms V0 cells slots pc (oS (fAld (pc + 2) i)) := fAld_ok (fun _ _ _ _ _ _ _ _ _ _ _ _ _ _ _ _ _ _ hx hb hl k => lv_aload hx hb hd hl k)
theorem s_aload_n {j : Fin 4} {i : Nat} (hi : (j : Nat) = i) (hd : decode cc pc = .ok (.aload_n j, 1)) : zOk emb own nm cc nL ret d mc ms V0 cells slots pc (oS (fAld (pc + 1) i)) := fAld_ok (fun _ _ _ _ _ _ _ _ _ _ _ _ _ _ _ _ _ _ hx hb hl k => lv_aload_n hx hb hd hi hl k)
theorem s_lload_n {j : Fin 4} {i : Nat} (hi : (j : Nat) = i) (hd : decode cc pc = .ok (.lload_n j, 1)) : zOk emb own nm cc nL ret d mc ms V0 cells slots pc (oS (fLld (pc + 1) i)) := by
  refine oS_ok (fun ls st M b q o hf r M' h1 h2 => ?_)
  unfold fLld at hf
  split at hf
  next x hx =>
    simp only [Option.some.injEq, Prod.mk.injEq] at hf
    obtain ⟨hb, hq, ho⟩ := hf
    subst hb; subst hq
    intro p l e s m args below meth c D cs A ψ φ0 φ H locs lsM hF hA hP hD hS hL
    exact lv_lload_n hF.1 hF.2.1 hd hi (hL.2.2 i _ hx) (h1 rfl p l e s m args below meth c D cs A ψ φ0 φ H locs lsM hF hA hP hD hS hL)
  next => cases hf
end ZA
/-! the locals as the kit has them -/
def zas (φ : Nat → Nat) (ls : List (Option Value)) : List (Nat × Value) := (List.range ls.length).filterMap (fun i => match ls[i]? with
  | some (some v) => some (i, zSt φ v)
  | _ => none)
theorem zas_mem {φ : Nat → Nat} {ls : List (Option Value)} {i : Nat} {v : Value} (h : ls[i]? = some (some v)) : (i, zSt φ v) ∈ zas φ ls := by
  unfold zas
  refine List.mem_filterMap.mpr ⟨i, List.mem_range.mpr (List.getElem?_eq_some_iff.mp h).1, ?_⟩
  rw [h]
theorem zas_of {φ : Nat → Nat} {ls : List (Option Value)} {q : Nat × Value} (h : q ∈ zas φ ls) : ∃ v, ls[q.1]? = some (some v) ∧ q.2 = zSt φ v := by
  unfold zas at h
  obtain ⟨i, -, hi⟩ := List.mem_filterMap.mp h
  split at hi
  next v hv =>
    simp only [Option.some.injEq] at hi
    subst hi
    exact ⟨v, hv, rfl⟩
  next => cases hi
theorem zLc_has {lsM : Array Slot} {nL : Nat} {φ : Nat → Nat} {ls : List (Option Value)} (h : zLc lsM nL φ ls) : lv_has lsM nL (zas φ ls) := by
  refine ⟨h.1, h.2.1, fun q hq => ?_⟩
  obtain ⟨v, h1, h2⟩ := zas_of hq
  rw [h2]
  exact h.2.2 _ v h1
/-- no long ends at this place -/
def zpl (ls : List (Option Value)) (i : Nat) : Bool := match i with
  | 0 => true
  | j + 1 => match ls[j]? with
    | some (some v) => Nat.beq v.category 1
    | _ => true
theorem zpl_of {ls : List (Option Value)} {i j : Nat} {v : Value} (h : zpl ls i = true) (hj : j + 1 = i) (hv : ls[j]? = some (some v)) : v.category = 1 := by
  subst hj
  unfold zpl at h
  simp only [hv] at h
  exact Nat.eq_of_beq_eq_true h
theorem zLc_st1 {ls' : Array Slot} {nL : Nat} {φ : Nat → Nat} {ls : List (Option Value)} {i : Nat} {v : Value} (hp : zpl ls i = true) (h : lv_has ls' nL ((i, zSt φ v) :: (zas φ ls).filter (fun q => !(q.1 == i) && !(q.1 + 1 == i && q.2.category == 2)))) : zLc ls' nL φ (ls.set i (some v)) := by
  refine ⟨h.1, h.2.1, fun j w hj => ?_⟩
  rw [List.getElem?_set] at hj
  by_cases hij : i = j
  · subst hij
    rw [if_pos rfl] at hj
    split at hj
    next => 
      simp only [Option.some.injEq] at hj
      subst hj
      exact h.2.2 (i, zSt φ v) List.mem_cons_self
    next => cases hj
  · rw [if_neg hij] at hj
    refine h.2.2 (j, zSt φ w) (List.mem_cons_of_mem _ (List.mem_filter.mpr ⟨zas_mem hj, ?_⟩))
    have h1 : ¬ j = i := fun e => hij e.symm
    by_cases h2 : j + 1 = i
    · have := zpl_of hp h2 hj
      simp [h1, h2, zSt_cat, this]
    · simp [h1, h2]
theorem zLc_st2 {ls' : Array Slot} {nL : Nat} {φ : Nat → Nat} {ls : List (Option Value)} {i : Nat} {v : Value} (hp : zpl ls i = true) (h : lv_has ls' nL ((i, zSt φ v) :: (zas φ ls).filter (fun q => !(q.1 == i) && (!(q.1 == i + 1) && !(q.1 + 1 == i && q.2.category == 2))))) : zLc ls' nL φ ((ls.set i (some v)).set (i + 1) none) := by
  refine ⟨h.1, h.2.1, fun j w hj => ?_⟩
  rw [List.getElem?_set] at hj
  by_cases h0 : i + 1 = j
  · rw [if_pos h0] at hj
    split at hj
    next => cases hj
    next => cases hj
  rw [if_neg h0, List.getElem?_set] at hj
  by_cases hij : i = j
  · subst hij
    rw [if_pos rfl] at hj
    split at hj
    next => 
      simp only [Option.some.injEq] at hj
      subst hj
      exact h.2.2 (i, zSt φ v) List.mem_cons_self
    next => cases hj
  · rw [if_neg hij] at hj
    refine h.2.2 (j, zSt φ w) (List.mem_cons_of_mem _ (List.mem_filter.mpr ⟨zas_mem hj, ?_⟩))
    have h1 : ¬ j = i := fun e => hij e.symm
    have h3 : ¬ j = i + 1 := fun e => h0 e.symm
    by_cases h2 : j + 1 = i
    · have := zpl_of hp h2 hj
      simp [h1, h2, h3, zSt_cat, this]
    · simp [h1, h2, h3]
