/-! THE MEMORY OF THE TWO OBJECTS: the class's at 0, the reference's at 72; the image's world at 206 (g.1), the council at 240 (g.2); references are fixed -/
def zRl : List (List (Option Nat)) := [[some 1, some 6, some 40, some 42, some 56, some 64, some 67], [some 2, some 3, some 4, some 5], [], [], [], [], [some 7, some 9, some 17, some 20, some 25, some 27, some 32, some 39], [none, some 8], [], [some 10, some 11, some 12, some 13, some 14, some 15, some 16], [], [], [], [], [], [], [], [some 18, some 19], [], [], [some 21, some 22, some 23, some 24], [], [], [], [], [some 26], [], [some 28, some 29, some 30, some 31], [], [], [], [], [some 33, some 34, some 35, some 36, some 37, some 38], [], [], [], [], [], [], [], [none, some 41], [], [some 43], [some 44, some 46, some 48, some 50, some 52, some 54], [none, some 45], [], [none, some 47], [], [none, some 49], [], [none, some 51], [], [none, some 53], [], [none, some 55], [], [some 57, some 58, some 59, some 60, some 61, some 62, some 63], [], [], [], [], [], [], [], [some 65, some 66], [], [], [some 68, some 69, some 70, some 71], [], [], [], [], [none, some 73, some 74, none, some 75, none, none, none, none, some 76, some 77, some 78, some 79, none, none, none, none, none, some 80, some 81, some 82, some 83, some 84, some 85, some 86, some 87, none, none, none, some 88, none, none, none, none, none, none, some 89, none, some 90, some 91, some 92, none, none, none, some 93, none, some 94, none, some 95, some 96, some 97, some 98, some 99, none, none, none, some 100], [], [], [], [], [], [], [], [], [], [], [], [], [], [], [], [], [], [], [], [], [], [], [], [], [], [], [], []]
def zF0 (a k : Nat) : Option Nat := (zRl.getD a []).getD k none
def zFr (a k : Nat) : Option Nat := bif Nat.blt a 200 then zF0 a k else bif Nat.blt a 240 then (zF0 (a - 200) k).map (fun x => x + 200) else bif Nat.beq a 240 && Nat.blt k 2 then some (241 + k) else none
abbrev zg : Type := Bool × Bool
def zRs (g : zg) : zRt := fun a k => bif Nat.beq a 0 && Nat.beq k 7 then (bif g.1 then some 206 else none) else bif Nat.beq a 0 && Nat.beq k 8 then (bif g.2 then some 240 else none) else zFr a k
def zVs (g : zg) : List Nat := List.range 101 ++ ((bif g.1 then (List.range 34).map (fun x => x + 206) else []) ++ (bif g.2 then [240, 241, 242] else []))
def zA (g : zg) (a : Nat) : Bool := Nat.blt a 101 || ((g.1 && Nat.ble 206 a && Nat.blt a 240) || (g.2 && Nat.ble 240 a && Nat.blt a 243))
theorem zA_mem {g : zg} {a : Nat} (h : zA g a = true) : a ∈ zVs g := by
  unfold zA at h
  simp only [Bool.or_eq_true, Bool.and_eq_true, Nat.blt_eq, Nat.ble_eq] at h
  unfold zVs
  rcases h with h | ⟨⟨h1, h2⟩, h3⟩ | ⟨⟨h1, h2⟩, h3⟩
  · exact List.mem_append_left _ (List.mem_range.mpr h)
  · rw [h1]
    exact List.mem_append_right _ (List.mem_append_left _ (List.mem_map.mpr ⟨a - 206, List.mem_range.mpr (by omega), by omega⟩))
  · rw [h1]
    refine List.mem_append_right _ (List.mem_append_right _ ?_)
    have : a = 240 ∨ a = 241 ∨ a = 242 := by omega
    simpa using this
abbrev zM : Type := zI × zL
def zem (g : zg) (M : zM) : ZM := (M.1, M.2, zRs g, zVs g)
def zsh (s : Nat × Nat) (t c : Nat) : Bool := Nat.beq s.1 t && Nat.beq s.2 c
theorem zsh_of {s : Nat × Nat} {t c : Nat} (h : zsh s t c = true) : s = (t, c) := by
  unfold zsh at h
  simp only [Bool.and_eq_true] at h
  exact Prod.ext (Nat.eq_of_beq_eq_true h.1) (Nat.eq_of_beq_eq_true h.2)
def zcp (I : zI) (a b n : Nat) : zI := zr I b (fun k => if k < n then I a k else I b k)
def fGi (g : zg) (n ci k : Nat) : zF zM := fun ls st M => match st with
  | .ref a :: st => some (zA g a && zsh (zS a) 1 ci, (n, ls, .int (M.1 a k) :: st, M), none)
  | _ => none
def fGr (g : zg) (n ci k : Nat) : zF zM := fun ls st M => match st with
  | .ref a :: st => some (zA g a && zsh (zS a) 1 ci, (n, ls, zRv (zRs g a k) :: st, M), none)
  | _ => none
def fPi (g : zg) (n ci k : Nat) : zF zM := fun ls st M => match st with
  | .int v :: .ref a :: st => some (zA g a && zsh (zS a) 1 ci, (n, ls, st, (zu M.1 a k v, M.2)), none)
  | _ => none
def fPz (g : zg) (n ci k : Nat) : zF zM := fun ls st M => match st with
  | .int v :: .ref a :: st => some (zA g a && zsh (zS a) 1 ci && cEq (v &&& 1) v, (n, ls, st, (zu M.1 a k v, M.2)), none)
  | _ => none
def fIa (g : zg) (n : Nat) : zF zM := fun ls st M => match st with
  | .int i :: .ref a :: st => some (zA g a && Nat.beq (zS a).1 2 && zb i (zS a).2, (n, ls, .int (M.1 a (zx i)) :: st, M), none)
  | _ => none
def fIs (g : zg) (n : Nat) : zF zM := fun ls st M => match st with
  | .int v :: .int i :: .ref a :: st => some (zA g a && Nat.beq (zS a).1 2 && zb i (zS a).2, (n, ls, st, (zu M.1 a (zx i) v, M.2)), none)
  | _ => none
def fLa (g : zg) (n : Nat) : zF zM := fun ls st M => match st with
  | .int i :: .ref a :: st => some (zA g a && Nat.beq (zS a).1 3 && zb i (zS a).2, (n, ls, .long (M.2 a (zx i)) :: st, M), none)
  | _ => none
def fLs (g : zg) (n : Nat) : zF zM := fun ls st M => match st with
  | .long v :: .int i :: .ref a :: st => some (zA g a && Nat.beq (zS a).1 3 && zb i (zS a).2, (n, ls, st, (M.1, zuL M.2 a (zx i) v)), none)
  | _ => none
def fAa (g : zg) (n : Nat) : zF zM := fun ls st M => match st with
  | .int i :: .ref a :: st => some (zA g a && Nat.beq (zS a).1 4 && zb i (zS a).2, (n, ls, zRv (zRs g a (zx i)) :: st, M), none)
  | _ => none
def fCp (g : zg) (n : Nat) : zF zM := fun ls st M => match st with
  | .int c :: .int dp :: .ref b :: .int sp :: .ref a :: st => some (cEq sp 0 && cEq dp 0 && (zA g a && zA g b) && (Nat.beq (zS a).1 2 && Nat.beq (zS b).1 2) && !cLt0 c && (Nat.ble (zx c) (zS a).2 && Nat.ble (zx c) (zS b).2) && Nat.ble st.length 4, (n, ls, st, (zcp M.1 a b (zx c), M.2)), none)
  | _ => none
section ZN
variable {g : zg} {own nm : String} {cc : ByteArray} {nL : Nat} {ret : Option FieldType} {d mc ms : Nat} {V0 : List Nat} {cells slots : Nat} {pc : Nat}
theorem zsplit {s : Nat × Nat} {t : Nat} (h : Nat.beq s.1 t = true) : s = (t, s.2) := Prod.ext (Nat.eq_of_beq_eq_true h) rfl
theorem s_getI {ci k idx : Nat} (hci : ci < 13) (hk : k < (zcl ci).2.2) (hr : zIsR ci k = false) (hl : zLk own idx ci k) (hd : decode cc pc = .ok (.getfield idx, 3)) : zOk (zem g) own nm cc nL ret d mc ms V0 cells slots pc (oS (fGi g (pc + 3) ci k)) := by
  refine oS_ok (fun ls st M b q o hf r M' h1 h2 => ?_)
  unfold fGi at hf
  split at hf
  next a st =>
    simp only [Option.some.injEq, Prod.mk.injEq] at hf
    obtain ⟨hb, hq, ho⟩ := hf
    subst hq
    cases b with
    | false => obtain ⟨q2, e, -⟩ := h2 rfl; rw [← ho] at e; cases e
    | true =>
      simp only [Bool.and_eq_true] at hb
      refine Z_get (M := zem g M) (zA_mem hb.1) (zsh_of hb.2) hci hk hl hd ?_
      rw [if_neg (by rw [hr]; decide)]
      exact h1 rfl
  next => cases hf
theorem s_getR {ci k idx : Nat} (hci : ci < 13) (hk : k < (zcl ci).2.2) (hr : zIsR ci k = true) (hl : zLk own idx ci k) (hd : decode cc pc = .ok (.getfield idx, 3)) : zOk (zem g) own nm cc nL ret d mc ms V0 cells slots pc (oS (fGr g (pc + 3) ci k)) := by
  refine oS_ok (fun ls st M b q o hf r M' h1 h2 => ?_)
  unfold fGr at hf
  split at hf
  next a st =>
    simp only [Option.some.injEq, Prod.mk.injEq] at hf
    obtain ⟨hb, hq, ho⟩ := hf
    subst hq
    cases b with
    | false => obtain ⟨q2, e, -⟩ := h2 rfl; rw [← ho] at e; cases e
    | true =>
      simp only [Bool.and_eq_true] at hb
      refine Z_get (M := zem g M) (zA_mem hb.1) (zsh_of hb.2) hci hk hl hd ?_
      rw [if_pos hr]
      exact h1 rfl
  next => cases hf
theorem s_putI {ci k idx : Nat} (hci : ci < 13) (hk : k < (zcl ci).2.2) (hty : zty ci k = .int) (hfin : ((zcl ci).2.1 k).2.2.2 = false) (hl : Cond.fieldLink own idx ((zcl ci).2.1 k).1 ((zcl ci).2.1 k).2.1 ((zcl ci).2.1 k).2.2.1 ∈ zG) (hd : decode cc pc = .ok (.putfield idx, 3)) : zOk (zem g) own nm cc nL ret d mc ms V0 cells slots pc (oS (fPi g (pc + 3) ci k)) := by
  refine oS_ok (fun ls st M b q o hf r M' h1 h2 => ?_)
  unfold fPi at hf
  split at hf
  next v a st =>
    simp only [Option.some.injEq, Prod.mk.injEq] at hf
    obtain ⟨hb, hq, ho⟩ := hf
    subst hq
    cases b with
    | false => obtain ⟨q2, e, -⟩ := h2 rfl; rw [← ho] at e; cases e
    | true =>
      simp only [Bool.and_eq_true] at hb
      exact Z_putI (M := zem g M) (zA_mem hb.1) (zsh_of hb.2) hci hk (by unfold zIsR; rw [hty]) hfin (by rw [hty]; rfl) (by rw [hty]; rfl) hl hd (h1 rfl)
  next => cases hf
theorem zbool {v : Int32} (h : v &&& 1 = v) : v = 0 ∨ v = 1 := by
  obtain ⟨j, hj, e⟩ := pk_andE v (m := 1) 1 (by decide)
  rw [h] at e
  have : j = 0 ∨ j = 1 := by omega
  rcases this with rfl | rfl
  · exact Or.inl e
  · exact Or.inr e
theorem s_putZ {ci k idx : Nat} (hci : ci < 13) (hk : k < (zcl ci).2.2) (hty : zty ci k = .boolean) (hfin : ((zcl ci).2.1 k).2.2.2 = false) (hl : Cond.fieldLink own idx ((zcl ci).2.1 k).1 ((zcl ci).2.1 k).2.1 ((zcl ci).2.1 k).2.2.1 ∈ zG) (hd : decode cc pc = .ok (.putfield idx, 3)) : zOk (zem g) own nm cc nL ret d mc ms V0 cells slots pc (oS (fPz g (pc + 3) ci k)) := by
  refine oS_ok (fun ls st M b q o hf r M' h1 h2 => ?_)
  unfold fPz at hf
  split at hf
  next v a st =>
    simp only [Option.some.injEq, Prod.mk.injEq] at hf
    obtain ⟨hb, hq, ho⟩ := hf
    subst hq
    cases b with
    | false => obtain ⟨q2, e, -⟩ := h2 rfl; rw [← ho] at e; cases e
    | true =>
      simp only [Bool.and_eq_true] at hb
      have hv : v &&& 1 = v := of_decide_eq_true hb.2
      exact Z_putI (M := zem g M) (zA_mem hb.1.1) (zsh_of hb.1.2) hci hk (by unfold zIsR; rw [hty]) hfin (by rw [hty]; simp [narrow, hv]) (by rw [hty]; rcases zbool hv with rfl | rfl <;> rfl) hl hd (h1 rfl)
  next => cases hf
theorem s_iald (hd : decode cc pc = .ok (.iaload, 1)) : zOk (zem g) own nm cc nL ret d mc ms V0 cells slots pc (oS (fIa g (pc + 1))) := by
  refine oS_ok (fun ls st M b q o hf r M' h1 h2 => ?_)
  unfold fIa at hf
  split at hf
  next i a st =>
    simp only [Option.some.injEq, Prod.mk.injEq] at hf
    obtain ⟨hb, hq, ho⟩ := hf
    subst hq
    cases b with
    | false => obtain ⟨q2, e, -⟩ := h2 rfl; rw [← ho] at e; cases e
    | true =>
      simp only [Bool.and_eq_true] at hb
      exact Z_iald (M := zem g M) (zA_mem hb.1.1) (zsplit hb.1.2) (zb_in hb.2) hd (h1 rfl)
  next => cases hf
theorem s_iast (hd : decode cc pc = .ok (.iastore, 1)) : zOk (zem g) own nm cc nL ret d mc ms V0 cells slots pc (oS (fIs g (pc + 1))) := by
  refine oS_ok (fun ls st M b q o hf r M' h1 h2 => ?_)
  unfold fIs at hf
  split at hf
  next v i a st =>
    simp only [Option.some.injEq, Prod.mk.injEq] at hf
    obtain ⟨hb, hq, ho⟩ := hf
    subst hq
    cases b with
    | false => obtain ⟨q2, e, -⟩ := h2 rfl; rw [← ho] at e; cases e
    | true =>
      simp only [Bool.and_eq_true] at hb
      exact Z_iast (M := zem g M) (zA_mem hb.1.1) (zsplit hb.1.2) (zb_in hb.2) hd (h1 rfl)
  next => cases hf
theorem s_lald (hd : decode cc pc = .ok (.laload, 1)) : zOk (zem g) own nm cc nL ret d mc ms V0 cells slots pc (oS (fLa g (pc + 1))) := by
  refine oS_ok (fun ls st M b q o hf r M' h1 h2 => ?_)
  unfold fLa at hf
  split at hf
  next i a st =>
    simp only [Option.some.injEq, Prod.mk.injEq] at hf
    obtain ⟨hb, hq, ho⟩ := hf
    subst hq
    cases b with
    | false => obtain ⟨q2, e, -⟩ := h2 rfl; rw [← ho] at e; cases e
    | true =>
      simp only [Bool.and_eq_true] at hb
      exact Z_lald (M := zem g M) (zA_mem hb.1.1) (zsplit hb.1.2) (zb_in hb.2) hd (h1 rfl)
  next => cases hf
theorem s_last (hd : decode cc pc = .ok (.lastore, 1)) : zOk (zem g) own nm cc nL ret d mc ms V0 cells slots pc (oS (fLs g (pc + 1))) := by
  refine oS_ok (fun ls st M b q o hf r M' h1 h2 => ?_)
  unfold fLs at hf
  split at hf
  next v i a st =>
    simp only [Option.some.injEq, Prod.mk.injEq] at hf
    obtain ⟨hb, hq, ho⟩ := hf
    subst hq
    cases b with
    | false => obtain ⟨q2, e, -⟩ := h2 rfl; rw [← ho] at e; cases e
    | true =>
      simp only [Bool.and_eq_true] at hb
      exact Z_last (M := zem g M) (zA_mem hb.1.1) (zsplit hb.1.2) (zb_in hb.2) hd (h1 rfl)
  next => cases hf
theorem s_aald (hd : decode cc pc = .ok (.aaload, 1)) : zOk (zem g) own nm cc nL ret d mc ms V0 cells slots pc (oS (fAa g (pc + 1))) := by
  refine oS_ok (fun ls st M b q o hf r M' h1 h2 => ?_)
  unfold fAa at hf
  split at hf
  next i a st =>
    simp only [Option.some.injEq, Prod.mk.injEq] at hf
    obtain ⟨hb, hq, ho⟩ := hf
    subst hq
    cases b with
    | false => obtain ⟨q2, e, -⟩ := h2 rfl; rw [← ho] at e; cases e
    | true =>
      simp only [Bool.and_eq_true] at hb
      exact Z_aald (M := zem g M) (zA_mem hb.1.1) (zsplit hb.1.2) (zb_in hb.2) hd (h1 rfl)
  next => cases hf
theorem zcat0 {st : List Value} (h : st.length ≤ 4) : (st.map fun v => v.category).sum ≤ 8 := by
  have := zcat (φ := id) h
  have e : ((st.map (zSt id)).map fun v => v.category) = st.map fun v => v.category := by
    rw [List.map_map]
    exact List.map_congr_left (fun v _ => zSt_cat id v)
  rw [e] at this
  exact this
theorem s_copy {idx : Nat} (hl : Cond.methodLink own idx arraycopyName ∈ zG) (hnat : Cond.native arraycopyName ∈ zG) (hstat : Cond.static arraycopyName ∈ zG) (hini : Cond.initialized "java/lang/System" ∈ zG) (hrm : 1 ≤ d) (hd : decode cc pc = .ok (.invokestatic idx, 3)) : zOk (zem g) own nm cc nL ret d mc ms V0 cells slots pc (oS (fCp g (pc + 3))) := by
  refine oS_ok (fun ls st M b q o hf r M' h1 h2 => ?_)
  unfold fCp at hf
  split at hf
  next c dp b0 sp a st =>
    simp only [Option.some.injEq, Prod.mk.injEq] at hf
    obtain ⟨hb, hq, ho⟩ := hf
    subst hq
    cases b with
    | false => obtain ⟨q2, e, -⟩ := h2 rfl; rw [← ho] at e; cases e
    | true =>
      simp only [Bool.and_eq_true, Bool.not_eq_true'] at hb
      obtain ⟨⟨⟨⟨⟨⟨b1, b2⟩, b3, b4⟩, b5, b6⟩, b7⟩, b8, b9⟩, b10⟩ := hb
      have e1 : sp = 0 := of_decide_eq_true b1
      have e2 : dp = 0 := of_decide_eq_true b2
      subst e1; subst e2
      have hw : nativeFrameWords "java/lang/System" "arraycopy" 5 = 7 := by decide +kernel
      have hc := zcat0 (Nat.le_of_ble_eq_true b10)
      exact Z_copy (M := zem g M) (zA_mem b3) (zA_mem b4) (zsplit b5) (zsplit b6) (of_decide_eq_false b7) (Nat.le_of_ble_eq_true b8) (Nat.le_of_ble_eq_true b9) hl hnat hstat hini hrm (by rw [hw]; omega) hd (h1 rfl)
  next => cases hf
/-! calls -/
def zcv (g : zg) (ci : Nat) (as : List Value) : Bool := match as with
  | .ref b :: _ => zA g b && zsh (zS b) 1 ci
  | _ => false
def zcs (_ : List Value) : Bool := true
noncomputable def zFn (t : List (Nat × zAct zM)) (nL : Nat) : List Value → zM → Option (Option Value × zM) := fun as M => bif z1 as && Nat.ble as.length nL then zX t 0 (zEnt as nL) [] M else none
theorem co_V {y : MethodName} {cc' : ByteArray} {nL' : Nat} {ret' : Option FieldType} {d' n idx ci : Nat} {F : List Value → zM → Option (Option Value × zM)} (hF : ∀ as M r M', F as M = some (r, M') → zMt y cc' nL' ret' d' 0 0 as (zem g M) r (zem g M')) (hci : ci < 13) (hy : (zcl ci).1 = y.cls) (hw : zMV y cc' nL' ret' n) (hl : zMl own idx y) (hroom : d' + 1 ≤ d ∧ 8 + (nL' + 11) + 64 * d' ≤ 64 * d) (hmc : cells ≤ mc ∧ slots ≤ ms) (hd : decode cc pc = .ok (.invokevirtual idx, 3)) : zCO (zem g) own nm cc nL ret d mc ms V0 cells slots pc (n + 1) (zcv g ci) F := by
  intro as st' M r1 M1 hc hn hst hf ls r M' h
  cases as with
  | nil => cases hc
  | cons v as =>
    cases v with
    | ref b =>
      have hc : (zA g b && zsh (zS b) 1 ci) = true := hc
      simp only [Bool.and_eq_true] at hc
      have := Z_callV (M := zem g M) (hF _ _ _ _ hf) rfl (zA_mem hc.1) (zsh_of hc.2) hci hy hw hl (by simpa using hn) hroom hst hmc hd h
      simpa using this
    | _ => cases hc
theorem co_S {y : MethodName} {cc' : ByteArray} {nL' : Nat} {ret' : Option FieldType} {d' n idx : Nat} {F : List Value → zM → Option (Option Value × zM)} (hF : ∀ as M r M', F as M = some (r, M') → zMt y cc' nL' ret' d' 0 0 as (zem g M) r (zem g M')) (hw : zMS y cc' nL' ret' n) (hl : zMl own idx y) (hroom : d' + 1 ≤ d ∧ 8 + (nL' + 11) + 64 * d' ≤ 64 * d) (hmc : cells ≤ mc ∧ slots ≤ ms) (hd : decode cc pc = .ok (.invokestatic idx, 3)) : zCO (zem g) own nm cc nL ret d mc ms V0 cells slots pc n zcs F := fun as st' M r1 M1 hc hn hst hf ls r M' h => Z_callS (M := zem g M) (hF _ _ _ _ hf) rfl hw hl hn hroom hst hmc hd h
theorem co_N {y : MethodName} {cc' : ByteArray} {nL' : Nat} {ret' : Option FieldType} {d' n idx : Nat} {F : List Value → zM → Option (Option Value × zM)} (hF : ∀ as M r M', F as M = some (r, M') → zMt y cc' nL' ret' d' 0 0 as (zem g M) r (zem g M')) (hw : zMS y cc' nL' ret' n) (hl : zMn own idx y) (hroom : d' + 1 ≤ d ∧ 8 + (nL' + 11) + 64 * d' ≤ 64 * d) (hmc : cells ≤ mc ∧ slots ≤ ms) (hd : decode cc pc = .ok (.invokestatic idx, 3)) : zCO (zem g) own nm cc nL ret d mc ms V0 cells slots pc n zcs F := fun as st' M r1 M1 hc hn hst hf ls r M' h => Z_callSN (M := zem g M) (hF _ _ _ _ hf) rfl hw hl hn hroom hst hmc hd h
end ZN
/-- a method by its table -/
theorem zMtX {g : zg} {y : MethodName} {cc : ByteArray} {nL : Nat} {ret : Option FieldType} {d : Nat} {t : List (Nat × zAct zM)} {ds : List (Nat × Instr × Nat)} (hy : plainFor y = true) (hk : zTab (zem g) y.cls y.name cc nL ret d 0 0 (zVs g) 0 0 ds t) (hd : ∀ q ∈ ds, decode cc q.1 = .ok q.2) :
    ∀ as M r M', zFn t nL as M = some (r, M') → zMt y cc nL ret d 0 0 as (zem g M) r (zem g M') := by
  intro as M r M' h
  unfold zFn at h
  cases hc : (z1 as && Nat.ble as.length nL) with
  | false => rw [hc] at h; cases h
  | true =>
    rw [hc] at h
    simp only [Bool.and_eq_true] at hc
    exact zMt_of hy hc.1 (Nat.le_of_ble_eq_true hc.2) (zX_sound _ _ _ _ _ _ _ _ _ _ _ _ (zTab_ok _ _ _ _ _ _ _ _ _ _ _ _ hk hd) h)
theorem zTab_tl {μ : Type} {emb : μ → ZM} {own nm : String} {cc : ByteArray} {nL : Nat} {ret : Option FieldType} {d mc ms : Nat} {V0 : List Nat} {cells slots : Nat} {ds : List (Nat × Instr × Nat)} {t : List (Nat × zAct μ)} (h : zTab emb own nm cc nL ret d mc ms V0 cells slots ds t) (hd : ∀ q ∈ ds, decode cc q.1 = .ok q.2) : ∀ q ∈ t, zTl q.2 := fun q hq => (zTab_ok _ _ _ _ _ _ _ _ _ _ _ _ h hd q hq).1
theorem zsys1 : Cond.native arraycopyName ∈ zG := zG_in (by decide +kernel) (by decide +kernel)
theorem zsys2 : Cond.static arraycopyName ∈ zG := zG_in (by decide +kernel) (by decide +kernel)
theorem zsys3 : Cond.initialized "java/lang/System" ∈ zG := zG_in (by decide +kernel) (by decide +kernel)
