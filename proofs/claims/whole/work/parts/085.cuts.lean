/-! dead locals are forgotten at the places where stretches end -/
def zclr (dead : List Nat) (ls : List (Option Value)) : List (Option Value) := match dead with
  | [] => ls
  | i :: r => zclr r (ls.set i none)
theorem zclr_get {dead : List Nat} {ls : List (Option Value)} {j : Nat} {v : Value} (h : (zclr dead ls)[j]? = some (some v)) : ls[j]? = some (some v) := by
  induction dead generalizing ls with
  | nil => exact h
  | cons i r ih =>
    have h1 := ih h
    rw [List.getElem?_set] at h1
    by_cases hij : i = j
    · rw [if_pos hij] at h1
      split at h1
      next => cases h1
      next => cases h1
    · rw [if_neg hij] at h1
      exact h1
theorem zclr_set {dead : List Nat} {ls : List (Option Value)} {i : Nat} : zclr dead (ls.set i none) = (zclr dead ls).set i none := by
  induction dead generalizing ls with
  | nil => rfl
  | cons j r ih =>
    unfold zclr
    by_cases h : i = j
    · subst h
      rw [List.set_set, ← ih, List.set_set]
    · rw [List.set_comm _ _ h, ih]
theorem zclr_idem {dead : List Nat} {ls : List (Option Value)} : zclr dead (zclr dead ls) = zclr dead ls := by
  induction dead generalizing ls with
  | nil => rfl
  | cons i r ih =>
    show zclr r ((zclr r (ls.set i none)).set i none) = zclr r (ls.set i none)
    rw [← zclr_set, List.set_set, ih]
theorem zLc_clr {lsM : Array Slot} {nL : Nat} {φ : Nat → Nat} {ls : List (Option Value)} (dead : List Nat) (h : zLc lsM nL φ ls) : zLc lsM nL φ (zclr dead ls) := ⟨h.1, h.2.1, fun i v hi => h.2.2 i v (zclr_get hi)⟩
def oF {μ : Type} (dead : List Nat) (act : zAct μ) : zAct μ := fun nx ls st M => act nx (zclr dead ls) st M
theorem s_F {μ : Type} {emb : μ → ZM} {own nm : String} {cc : ByteArray} {nL : Nat} {ret : Option FieldType} {d mc ms : Nat} {V0 : List Nat} {cells slots : Nat} {pc : Nat} {dead : List Nat} {act : zAct μ} (h : zOk emb own nm cc nL ret d mc ms V0 cells slots pc act) : zOk emb own nm cc nL ret d mc ms V0 cells slots pc (oF dead act) := by
  refine ⟨fun ls st M => h.1 (zclr dead ls) st M, fun nx ls st M r M' ha hn => ?_⟩
  have h1 := h.2 nx (zclr dead ls) st M r M' ha hn
  intro p l e s m args below meth c D cs A ψ φ0 φ H locs lsM hF hA hP hD hS hL
  exact h1 p l e s m args below meth c D cs A ψ φ0 φ H locs lsM hF hA hP hD hS (zLc_clr dead hL)
/-- the places where stretches end, with their dead locals -/
def zcut (ct : List (Nat × List Nat)) (pc : Nat) : Option (List Nat) := match ct with
  | [] => none
  | q :: r => bif Nat.beq q.1 pc then some q.2 else zcut r pc
def zrunN {μ : Type} (t : List (Nat × zAct μ)) (ct : List (Nat × List Nat)) (nx : zK μ) : Nat → zK μ
  | 0 => nx
  | n + 1 => fun pc ls st M => match zcut ct pc with
    | some dead => nx pc (zclr dead ls) st M
    | none => match zlk t pc with
      | none => none
      | some act => act (zrunN t ct nx n) ls st M
def zCt {μ : Type} (t : List (Nat × zAct μ)) (ct : List (Nat × List Nat)) : Prop := ∀ q ∈ ct, ∃ act, zlk t q.1 = some (oF q.2 act)
theorem zcut_mem {ct : List (Nat × List Nat)} {pc : Nat} {dead : List Nat} (h : zcut ct pc = some dead) : (pc, dead) ∈ ct := by
  induction ct with
  | nil => cases h
  | cons q t ih =>
    unfold zcut at h
    cases hb : Nat.beq q.1 pc with
    | true =>
      rw [hb] at h
      have e := Nat.eq_of_beq_eq_true hb
      simp only [cond_true, Option.some.injEq] at h
      subst e; subst h
      exact List.mem_cons_self
    | false =>
      rw [hb] at h
      exact List.mem_cons_of_mem _ (ih h)
theorem zrunN_X {μ : Type} {t : List (Nat × zAct μ)} {ct : List (Nat × List Nat)} (ht : ∀ q ∈ t, zTl q.2) (hc : zCt t ct) : ∀ n, zrunN t ct (zX t) n = zX t := by
  intro n
  induction n with
  | zero => rfl
  | succ n ih =>
    funext pc ls st M
    unfold zrunN
    cases hcut : zcut ct pc with
    | some dead =>
      obtain ⟨act, ha⟩ := hc _ (zcut_mem hcut)
      have ha : zlk t pc = some (oF dead act) := ha
      simp only
      rw [zX_step ht pc ls, zX_step ht pc (zclr dead ls), ha]
      show act (zX t) (zclr dead (zclr dead ls)) st M = act (zX t) (zclr dead ls) st M
      rw [zclr_idem]
    | none =>
      rw [ih, zX_step ht]
      rfl
def zrgN {μ : Type} (t : List (Nat × zAct μ)) (ct : List (Nat × List Nat)) (n : Nat) (nx : zK μ) : zK μ := fun pc ls st M => match zlk t pc with
  | none => none
  | some act => act (zrunN t ct nx n) ls st M
theorem zX_rgN {μ : Type} {t : List (Nat × zAct μ)} {ct : List (Nat × List Nat)} (ht : ∀ q ∈ t, zTl q.2) (hc : zCt t ct) (n : Nat) (pc : Nat) (ls : List (Option Value)) (st : List Value) (M : μ) : zX t pc ls st M = zrgN t ct n (zX t) pc ls st M := by
  unfold zrgN
  rw [zrunN_X ht hc]
  exact zX_step ht pc ls st M
/-! a reference out of an array, by cases -/
def zsa {μ : Type} (nx : zK μ) (n : Nat) (ls : List (Option Value)) (st : List Value) (M : μ) (x : Int32) : List (Int32 × Nat) → Option (Option Value × μ)
  | [] => none
  | q :: r => bif cEq x q.1 then nx n ls (.ref q.2 :: st) M else zsa nx n ls st M x r
def oAa (g : zg) (n a0 : Nat) (cs : List (Int32 × Nat)) : zAct zM := fun nx ls st M => match st with
  | .int i :: .ref a :: st => bif Nat.beq a a0 && zA g a && Nat.beq (zS a).1 4 then zsa nx n ls st M i cs else none
  | _ => none
theorem zsa_tl {μ : Type} {n : Nat} {ls : List (Option Value)} {st : List Value} {M : μ} {x : Int32} : ∀ cs, (∃ v, ∀ nx : zK μ, zsa nx n ls st M x cs = v) ∨ ∃ q ∈ cs, x = q.1 ∧ ∀ nx : zK μ, zsa nx n ls st M x cs = nx n ls (.ref q.2 :: st) M := by
  intro cs
  induction cs with
  | nil => exact Or.inl ⟨none, fun _ => rfl⟩
  | cons q r ih =>
    cases hq : cEq x q.1 with
    | true => exact Or.inr ⟨q, List.mem_cons_self, of_decide_eq_true hq, fun nx => by unfold zsa; rw [hq]; rfl⟩
    | false =>
      rcases ih with ⟨v, h⟩ | ⟨q2, h1, h2, h3⟩
      · exact Or.inl ⟨v, fun nx => by unfold zsa; rw [hq]; exact h nx⟩
      · exact Or.inr ⟨q2, List.mem_cons_of_mem _ h1, h2, fun nx => by unfold zsa; rw [hq]; exact h3 nx⟩
theorem zsa_no {μ : Type} {nx : zK μ} {n : Nat} {ls : List (Option Value)} {st : List Value} {M : μ} {x : Int32} : ∀ cs, zsa nx n ls st M x cs = none ∨ ∃ q ∈ cs, x = q.1 ∧ zsa nx n ls st M x cs = nx n ls (.ref q.2 :: st) M := by
  intro cs
  induction cs with
  | nil => exact Or.inl rfl
  | cons q r ih =>
    unfold zsa
    cases hq : cEq x q.1 with
    | true => exact Or.inr ⟨q, List.mem_cons_self, of_decide_eq_true hq, rfl⟩
    | false =>
      rcases ih with h | ⟨q2, h1, h2, h3⟩
      · exact Or.inl h
      · exact Or.inr ⟨q2, List.mem_cons_of_mem _ h1, h2, h3⟩
theorem s_aaC {g : zg} {own nm : String} {cc : ByteArray} {nL : Nat} {ret : Option FieldType} {d mc ms : Nat} {V0 : List Nat} {cells slots : Nat} {pc a0 : Nat} {cs : List (Int32 × Nat)} (hcs : ∀ q ∈ cs, zFr a0 (zx q.1) = some q.2 ∧ zb q.1 (zS a0).2 = true) (h0 : Nat.beq a0 0 = false) (hd : decode cc pc = .ok (.aaload, 1)) : zOk (zem g) own nm cc nL ret d mc ms V0 cells slots pc (oAa g (pc + 1) a0 cs) := by
  refine ⟨fun ls st M => ?_, fun nx ls st M r M' ha hn => ?_⟩
  · unfold oAa
    rcases st with _ | ⟨v, _ | ⟨w, st⟩⟩
    · exact Or.inl ⟨none, fun _ => rfl⟩
    · cases v <;> exact Or.inl ⟨none, fun _ => rfl⟩
    · cases v <;> first | exact Or.inl ⟨none, fun _ => rfl⟩ | skip
      cases w <;> first | exact Or.inl ⟨none, fun _ => rfl⟩ | skip
      next i a =>
        cases hc : (Nat.beq a a0 && zA g a && Nat.beq (zS a).1 4) with
        | false => exact Or.inl ⟨none, fun _ => by simp only [hc]; rfl⟩
        | true =>
          rcases zsa_tl (n := pc + 1) (ls := ls) (st := st) (M := M) (x := i) cs with ⟨v, h⟩ | ⟨q, h1, h2, h3⟩
          · exact Or.inl ⟨v, fun nx => by simp only [hc]; exact h nx⟩
          · exact Or.inr ⟨_, _, _, _, fun nx => by simp only [hc]; exact h3 nx⟩
  · unfold oAa at ha
    split at ha
    next i a st =>
      cases hc : (Nat.beq a a0 && zA g a && Nat.beq (zS a).1 4) with
      | false => simp only [hc, cond_false] at ha; cases ha
      | true =>
        simp only [hc, cond_true] at ha
        simp only [Bool.and_eq_true] at hc
        rcases zsa_no (nx := nx) (n := pc + 1) (ls := ls) (st := st) (M := M) (x := i) cs with h | ⟨q, h1, h2, h3⟩
        · rw [h] at ha; cases ha
        · rw [h3] at ha
          have e := Nat.eq_of_beq_eq_true hc.1.1
          subst e; subst h2
          obtain ⟨g1, g2⟩ := hcs q h1
          have h4 := hn _ _ _ _ ha
          have e5 : zRs g a (zx q.1) = some q.2 := by unfold zRs; rw [h0]; exact g1
          refine Z_aald (M := zem g M) (zA_mem hc.1.2) (zsplit hc.2) (zb_in g2) hd ?_
          show ZW _ _ _ _ _ _ _ _ _ _ _ _ _ (zRv (zRs g a (zx q.1)) :: st) _ _ _
          rw [e5]
          exact h4
    next => cases ha
