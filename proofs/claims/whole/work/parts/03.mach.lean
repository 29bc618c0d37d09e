/-! THE PURE MACHINE: what an instruction does, as a function of what follows; a method's table of them; its runs -/
abbrev zK (μ : Type) : Type := Nat → List (Option Value) → List Value → μ → Option (Option Value × μ)
abbrev zAct (μ : Type) : Type := zK μ → List (Option Value) → List Value → μ → Option (Option Value × μ)
abbrev zN (μ : Type) : Type := Nat × List (Option Value) × List Value × μ
abbrev zF (μ : Type) : Type := List (Option Value) → List Value → μ → Option (Bool × zN μ × Option (zN μ))
def zlk {μ : Type} (l : List (Nat × zAct μ)) (pc : Nat) : Option (zAct μ) := match l with
  | [] => none
  | q :: t => bif Nat.beq q.1 pc then some q.2 else zlk t pc
theorem zlk_mem {μ : Type} {l : List (Nat × zAct μ)} {pc : Nat} {act : zAct μ} (h : zlk l pc = some act) : (pc, act) ∈ l := by
  induction l with
  | nil => cases h
  | cons q t ih =>
    unfold zlk at h
    cases hb : Nat.beq q.1 pc with
    | true =>
      rw [hb] at h
      have e := Nat.eq_of_beq_eq_true hb
      simp only [cond_true, Option.some.injEq] at h
      subst e; subst h
      exact List.mem_cons_self
    | false =>
      rw [hb] at h
      exact List.mem_cons_of_mem _ (ih h)
def zev {μ : Type} (t : List (Nat × zAct μ)) : Nat → zK μ
  | 0 => fun _ _ _ _ => none
  | n + 1 => fun pc ls st M => match zlk t pc with
    | none => none
    | some act => act (zev t n) ls st M
/-- what follows is asked for at most once, and last -/
def zTl {μ : Type} (act : zAct μ) : Prop := ∀ ls st M, (∃ v, ∀ nx, act nx ls st M = v) ∨ (∃ pc' ls' st' M', ∀ nx : zK μ, act nx ls st M = nx pc' ls' st' M')
theorem zev_mono {μ : Type} {t : List (Nat × zAct μ)} (ht : ∀ q ∈ t, zTl q.2) : ∀ n pc ls st M x, zev t n pc ls st M = some x → zev t (n + 1) pc ls st M = some x := by
  intro n
  induction n with
  | zero => intro pc ls st M x h; cases h
  | succ n ih =>
    intro pc ls st M x h
    unfold zev at h ⊢
    cases hl : zlk t pc with
    | none => rw [hl] at h; cases h
    | some act =>
      rw [hl] at h
      simp only at h ⊢
      have ha : zTl act := ht _ (zlk_mem hl)
      rcases ha ls st M with ⟨v, hv⟩ | ⟨pc', ls', st', M', hv⟩
      · rw [hv] at h ⊢; exact h
      · rw [hv] at h ⊢; exact ih _ _ _ _ _ h
theorem zev_le {μ : Type} {t : List (Nat × zAct μ)} (ht : ∀ q ∈ t, zTl q.2) {n k : Nat} {pc ls st} {M : μ} {x} (h : zev t n pc ls st M = some x) : zev t (n + k) pc ls st M = some x := by
  induction k with
  | zero => exact h
  | succ k ih => exact zev_mono ht _ _ _ _ _ _ ih
noncomputable def zX {μ : Type} (t : List (Nat × zAct μ)) : zK μ := fun pc ls st M =>
  @dite _ (∃ x, ∃ n, zev t n pc ls st M = some x) (Classical.propDecidable _) (fun h => some (Classical.choose h)) (fun _ => none)
theorem zX_iff {μ : Type} {t : List (Nat × zAct μ)} (ht : ∀ q ∈ t, zTl q.2) {pc ls st} {M : μ} {x} : zX t pc ls st M = some x ↔ ∃ n, zev t n pc ls st M = some x := by
  unfold zX
  constructor
  · intro h
    split at h
    next hx =>
      simp only [Option.some.injEq] at h
      rw [← h]
      exact Classical.choose_spec hx
    next => cases h
  · rintro ⟨n, hn⟩
    split
    next hx =>
      obtain ⟨k, hk⟩ := Classical.choose_spec hx
      have h1 := zev_le ht (k := k) hn
      have h2 := zev_le ht (k := n) hk
      rw [Nat.add_comm] at h2
      rw [h1] at h2
      exact h2.symm
    next hx => exact absurd ⟨x, n, hn⟩ hx
theorem zX_step {μ : Type} {t : List (Nat × zAct μ)} (ht : ∀ q ∈ t, zTl q.2) (pc : Nat) (ls : List (Option Value)) (st : List Value) (M : μ) :
    zX t pc ls st M = match zlk t pc with
      | none => none
      | some act => act (zX t) ls st M := by
  apply Option.ext
  intro x
  have a1 : zX t pc ls st M = some x ↔ ∃ n, zev t (n + 1) pc ls st M = some x := by
    rw [zX_iff ht]
    constructor
    · rintro ⟨n, h⟩; exact ⟨n, zev_mono ht _ _ _ _ _ _ h⟩
    · rintro ⟨n, h⟩; exact ⟨n + 1, h⟩
  rw [a1]
  cases hl : zlk t pc with
  | none => simp [zev, hl]
  | some act =>
    simp only [zev, hl]
    have ha : zTl act := ht _ (zlk_mem hl)
    rcases ha ls st M with ⟨v, hv⟩ | ⟨pc', ls', st', M', hv⟩
    · simp [hv]
    · simp only [hv]
      exact (zX_iff ht).symm
/-- a stretch: steps, until a place of 'stop' -/
def zrun {μ : Type} (t : List (Nat × zAct μ)) (stop : Nat → Bool) (nx : zK μ) : Nat → zK μ
  | 0 => nx
  | n + 1 => fun pc ls st M => bif stop pc then nx pc ls st M else match zlk t pc with
    | none => none
    | some act => act (zrun t stop nx n) ls st M
theorem zrun_X {μ : Type} {t : List (Nat × zAct μ)} (ht : ∀ q ∈ t, zTl q.2) (stop : Nat → Bool) : ∀ n, zrun t stop (zX t) n = zX t := by
  intro n
  induction n with
  | zero => rfl
  | succ n ih =>
    funext pc ls st M
    unfold zrun
    cases stop pc with
    | true => rfl
    | false =>
      rw [ih, zX_step ht]
      rfl
def zrg {μ : Type} (t : List (Nat × zAct μ)) (stop : Nat → Bool) (n : Nat) (nx : zK μ) : zK μ := fun pc ls st M => match zlk t pc with
  | none => none
  | some act => act (zrun t stop nx n) ls st M
theorem zX_rg {μ : Type} {t : List (Nat × zAct μ)} (ht : ∀ q ∈ t, zTl q.2) (stop : Nat → Bool) (n : Nat) (pc : Nat) (ls : List (Option Value)) (st : List Value) (M : μ) : zX t pc ls st M = zrg t stop n (zX t) pc ls st M := by
  unfold zrg
  rw [zrun_X ht, ← zX_step ht]
/-! an instruction that is right at its place -/
section ZOK
variable {μ : Type} (emb : μ → ZM) (own nm : String) (cc : ByteArray) (nL : Nat) (ret : Option FieldType) (d mc ms : Nat) (V0 : List Nat) (cells slots : Nat)
def zOk (pc : Nat) (act : zAct μ) : Prop := zTl act ∧ ∀ (nx : zK μ) ls st M r M', act nx ls st M = some (r, M') →
  (∀ pc' ls' st' M1, nx pc' ls' st' M1 = some (r, M') → ZW own nm cc nL ret d mc ms V0 cells slots pc' ls' st' (emb M1) r (emb M')) → ZW own nm cc nL ret d mc ms V0 cells slots pc ls st (emb M) r (emb M')
theorem zX_sound {t : List (Nat × zAct μ)} (ht : ∀ q ∈ t, zOk emb own nm cc nL ret d mc ms V0 cells slots q.1 q.2) {pc : Nat} {ls : List (Option Value)} {st : List Value} {M : μ} {r : Option Value} {M' : μ} (h : zX t pc ls st M = some (r, M')) :
    ZW own nm cc nL ret d mc ms V0 cells slots pc ls st (emb M) r (emb M') := by
  obtain ⟨n, hn⟩ := (zX_iff (fun q hq => (ht q hq).1)).mp h
  clear h
  induction n generalizing pc ls st M with
  | zero => cases hn
  | succ n ih =>
    unfold zev at hn
    cases hl : zlk t pc with
    | none => rw [hl] at hn; cases hn
    | some act =>
      rw [hl] at hn
      exact (ht _ (zlk_mem hl)).2 _ _ _ _ _ _ hn (fun _ _ _ _ h => ih h)
/-- the decode rows beside the table -/
def zTab : List (Nat × Instr × Nat) → List (Nat × zAct μ) → Prop
  | [], [] => True
  | q :: qs, a :: as => (decode cc q.1 = .ok q.2 → zOk emb own nm cc nL ret d mc ms V0 cells slots a.1 a.2) ∧ zTab qs as
  | _, _ => False
theorem zTab_ok {ds : List (Nat × Instr × Nat)} {t : List (Nat × zAct μ)} (h : zTab emb own nm cc nL ret d mc ms V0 cells slots ds t) (hd : ∀ q ∈ ds, decode cc q.1 = .ok q.2) : ∀ q ∈ t, zOk emb own nm cc nL ret d mc ms V0 cells slots q.1 q.2 := by
  induction ds generalizing t with
  | nil =>
    cases t with
    | nil => intro q hq; cases hq
    | cons a as => exact absurd h (by simp [zTab])
  | cons e es ih =>
    cases t with
    | nil => exact absurd h (by simp [zTab])
    | cons a as =>
      simp only [zTab] at h
      intro q hq
      rcases List.mem_cons.mp hq with rfl | hq
      · exact h.1 (hd e List.mem_cons_self)
      · exact ih h.2 (fun q hq => hd q (List.mem_cons_of_mem _ hq)) q hq
end ZOK
/-! steps without calls: one next place, or two by a test -/
def oS {μ : Type} (f : zF μ) : zAct μ := fun nx ls st M => match f ls st M with
  | none => none
  | some (b, q, o) => bif b then nx q.1 q.2.1 q.2.2.1 q.2.2.2 else match o with
    | none => none
    | some q => nx q.1 q.2.1 q.2.2.1 q.2.2.2
theorem oS_tl {μ : Type} (f : zF μ) : zTl (oS f) := by
  intro ls st M
  unfold oS
  cases f ls st M with
  | none => exact Or.inl ⟨none, fun _ => rfl⟩
  | some x =>
    obtain ⟨b, q, o⟩ := x
    cases b with
    | true => exact Or.inr ⟨_, _, _, _, fun _ => rfl⟩
    | false => cases o with
      | none => exact Or.inl ⟨none, fun _ => rfl⟩
      | some q => exact Or.inr ⟨_, _, _, _, fun _ => rfl⟩
section ZS
variable {μ : Type} {emb : μ → ZM} {own nm : String} {cc : ByteArray} {nL : Nat} {ret : Option FieldType} {d mc ms : Nat} {V0 : List Nat} {cells slots : Nat}
theorem oS_ok {pc : Nat} {f : zF μ} (h : ∀ ls st M b q o, f ls st M = some (b, q, o) → ∀ r M', (b = true → ZW own nm cc nL ret d mc ms V0 cells slots q.1 q.2.1 q.2.2.1 (emb q.2.2.2) r M') → (b = false → ∃ q2, o = some q2 ∧ ZW own nm cc nL ret d mc ms V0 cells slots q2.1 q2.2.1 q2.2.2.1 (emb q2.2.2.2) r M') → ZW own nm cc nL ret d mc ms V0 cells slots pc ls st (emb M) r M') :
    zOk emb own nm cc nL ret d mc ms V0 cells slots pc (oS f) := by
  refine ⟨oS_tl f, fun nx ls st M r M' ha hn => ?_⟩
  unfold oS at ha
  cases hf : f ls st M with
  | none => rw [hf] at ha; cases ha
  | some x =>
    obtain ⟨b, q, o⟩ := x
    rw [hf] at ha
    refine h ls st M b q o hf r (emb M') (fun hb => ?_) (fun hb => ?_)
    · subst hb; exact hn _ _ _ _ ha
    · subst hb
      cases o with
      | none => cases ha
      | some q2 => exact ⟨q2, rfl, hn _ _ _ _ ha⟩
/-- a step on the stack alone -/
def fSt {μ : Type} (n : Nat) (g : List Value → Option (List Value)) : zF μ := fun ls st M => match g st with
  | none => none
  | some st' => some (true, (n, ls, st', M), none)
theorem fSt_ok {pc n : Nat} {g : List Value → Option (List Value)} (h : ∀ st st', g st = some st' → ∀ (φ : Nat → Nat) (p : Program) (l : Launch) (e : Env) (R : Room) (s : State) (m : MethodId) (args : Array Value) (below : List Frame) (meth : Method) (c : Code) (H : Heap) (locs : List Loc) (cells slots : Nat) (Q : State → Prop) (ls : Array Slot), p.tables.exec = Jvm.exec → c.code = cc →
      s.vm.findClass own = some m.cls → (∀ w ∈ zG, w.before args s = true) → W p l e R s m args below meth c H locs cells slots Q (F0 m n ls (st'.map (zSt φ))) → W p l e R s m args below meth c H locs cells slots Q (F0 m pc ls (st.map (zSt φ)))) :
    zOk emb own nm cc nL ret d mc ms V0 cells slots pc (oS (fSt n g)) := by
  refine oS_ok (fun ls st M b q o hf r M' h1 h2 => ?_)
  unfold fSt at hf
  cases hg : g st with
  | none => rw [hg] at hf; cases hf
  | some st' =>
    rw [hg] at hf
    simp only [Option.some.injEq, Prod.mk.injEq] at hf
    obtain ⟨hb, hq, -⟩ := hf
    subst hb; subst hq
    intro p l e s m args below meth c D cs A ψ φ0 φ H locs lsM hF hA hP hD hS hL
    exact h st st' hg φ p l e _ s m args below meth c H locs _ _ _ lsM hF.1 hF.2.1 hF.2.2.2.2.1 hF.2.2.2.2.2.2.1 (h1 rfl p l e s m args below meth c D cs A ψ φ0 φ H locs lsM hF hA hP hD hS hL)
end ZS
