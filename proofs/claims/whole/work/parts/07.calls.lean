/-! CALLS -/
theorem zG_GoodIn : GoodIn zG zG := fun w h => ⟨h, good_of_word (zG_good w h)⟩
theorem zWd_good {y : MethodName} {cc : ByteArray} {nL : Nat} {ret : Option FieldType} (h : Cond.code y cc nL ret ∈ zG) : GoodIn zG (zWd y cc nL ret) := fun w hw => by
  rcases List.mem_cons.mp hw with rfl | hw
  · exact zG_GoodIn _ h
  · exact zG_GoodIn _ hw
/-- of a method that is called on an object -/
def zMV (y : MethodName) (cc : ByteArray) (nL : Nat) (ret : Option FieldType) (n : Nat) : Prop := Cond.instanceMethod y ∈ zG ∧ Cond.selects y.cls y y ∈ zG ∧ Cond.initialized y.cls ∈ zG ∧ Cond.code y cc nL ret ∈ zG ∧ y.cls ≠ "java/lang/invoke/MethodHandle" ∧ y.cls ≠ "java/lang/invoke/VarHandle" ∧ (parseMethodDescriptor y.desc).map (fun d => d.parameters.length) = some n
/-- of a static method -/
def zMS (y : MethodName) (cc : ByteArray) (nL : Nat) (ret : Option FieldType) (n : Nat) : Prop := Cond.static y ∈ zG ∧ Cond.initialized y.cls ∈ zG ∧ Cond.code y cc nL ret ∈ zG ∧ y.cls ≠ "java/lang/invoke/MethodHandle" ∧ y.cls ≠ "java/lang/invoke/VarHandle" ∧ (parseMethodDescriptor y.desc).map (fun d => d.parameters.length) = some n
def zMl (own : String) (idx : Nat) (y : MethodName) : Prop := Cond.methodLink own idx y ∈ zG
def zMn (own : String) (idx : Nat) (y : MethodName) : Prop := ∃ host, Cond.methodLinkNest own idx y host ∈ zNs
/-- behind a call -/
theorem zAfter {p : Program} {l : Launch} {e : Env} {R : Room} {s : State} {m : MethodId} {args : Array Value} {below : List Frame} {meth : Method} {c : Code} {H : Heap} {locs : List Loc} {cells slots mc' ms' : Nat} {Q : State → Prop} {D : va_G} {cs : Nat → ClassId} {A : Nat → Prop} {ψ φ : Nat → Nat} {M M1 : ZM} {r1 : Option Value} {a : Array Value} {pc : Nat} {lsM : Array Slot} {st0 st : List Value}
    (hr : va_Run p l e R s m args below meth c H locs cells slots mc' ms' (F0 m pc lsM st0) (st.map (zSt φ)) (zQc D cs A ψ φ M.2.2.2 r1 M1 a) A) (hV : M1.2.2.2 = M.2.2.2) (hS : va_S A s.heap H locs)
    (kk : ∀ (H1 : Heap) (locs1 : List Loc), va_P D vwCl (zWs cs φ M1) H1 → va_D A (zWs cs φ M1) → va_S A s.heap H1 locs1 → W p l e R s m args below meth c H1 locs1 (cells + mc') (slots + ms') Q (F0 m (pc + 3) lsM ((r1.toList ++ st).map (zSt φ)))) :
    W p l e R s m args below meth c H locs cells slots Q (F0 m pc lsM st0) := by
  intro T hT X
  obtain ⟨v, st₀, t, T', L, h0, X', hL, e1, e2, ⟨φ', hag, hv, hP1, hD1, hz, hk⟩, stp⟩ := hr T hT X
  have hφ : φ' = φ := by
    funext x
    refine hag.1 x ?_
    rw [hV]
    exact Classical.em _
  subst hφ
  cases hv
  rw [h0] at hz hk
  obtain ⟨t2, a1, b1⟩ := kk T'.heap (locs ++ L) (by rw [e1]; exact hP1) hD1 ⟨Nat.le_trans hS.1 (by rw [e1]; exact hz), fun q h1 h2 => by
      rw [e1, hk q (Nat.lt_of_lt_of_le h1 hS.1) h2]
      exact hS.2.1 q h1 h2, fun q hq => by
      rcases List.mem_append.mp hq with h | h
      · exact hS.2.2 q h
      · exact hL q h⟩ T' rfl X'
  refine ⟨t2, stp t2 ?_, b1⟩
  rw [List.map_append] at a1
  have e3 : (r1.map (zSt φ')).toList = r1.toList.map (zSt φ') := by cases r1 <;> rfl
  rw [e3]
  exact a1
theorem zPre_of {s : State} {H : Heap} {locs : List Loc} {D : va_G} {cs : Nat → ClassId} {A : Nat → Prop} {ψ φ : Nat → Nat} {M : ZM} {as : List Value} (hE : zE D cs A ψ s) (hψ : ∀ i, φ (1000 + i) = ψ i) (hP : va_P D vwCl (zWs cs φ M) H) (hD : va_D A (zWs cs φ M)) (hS : va_S A s.heap H locs) : ∀ U : State, U.heap = H → s.WarmedH U.vm → zPc D cs A ψ φ as M (as.map (zSt φ)).toArray U := by
  intro U hU hW
  exact ⟨rfl, hE.move hW (by rw [hU]; exact hS.1) (fun a h1 h2 => by rw [hU]; exact hS.2.1 a h1 h2), hψ, by rw [hU]; exact hP, hD⟩
theorem zcat {φ : Nat → Nat} {st : List Value} (h : st.length ≤ 4) : ((st.map (zSt φ)).map fun v => v.category).sum ≤ 8 := by
  have g : ∀ l : List Value, (l.map fun v => v.category).sum ≤ 2 * l.length := by
    intro l
    induction l with
    | nil => simp
    | cons v l ih =>
      have := lv_cat v
      simp only [List.map_cons, List.sum_cons, List.length_cons]
      omega
  have := g (st.map (zSt φ))
  simp only [List.length_map] at this
  omega
/-- what else is on the stack at a call fits its room -/
def zrm (st : List Value) : Bool := Nat.ble (st.map fun v => v.category).sum 8
theorem zcatR {φ : Nat → Nat} {st : List Value} (h : zrm st = true) : ((st.map (zSt φ)).map fun v => v.category).sum ≤ 8 := by
  have e : ((st.map (zSt φ)).map fun v => v.category) = st.map fun v => v.category := by
    rw [List.map_map]
    exact List.map_congr_left (fun v _ => zSt_cat φ v)
  rw [e]
  exact Nat.le_of_ble_eq_true h
section ZCALL
variable {own nm : String} {cc : ByteArray} {nL : Nat} {ret : Option FieldType} {d mc ms : Nat} {V0 : List Nat} {cells slots : Nat} {pc : Nat} {ls : List (Option Value)} {st : List Value} {M : ZM} {r : Option Value} {M' : ZM}
theorem Z_callV {y : MethodName} {cc' : ByteArray} {nL' : Nat} {ret' : Option FieldType} {d' n idx b ci mc' ms' : Nat} {as : List Value} {M1 : ZM} {r1 : Option Value} (hM : zMt y cc' nL' ret' d' mc' ms' (.ref b :: as) M r1 M1) (hV : M1.2.2.2 = M.2.2.2) (hb0 : b ∈ M.2.2.2) (hs : zS b = (1, ci)) (hci : ci < 13) (hy : (zcl ci).1 = y.cls) (hw : zMV y cc' nL' ret' n) (hl : zMl own idx y) (hn : as.length = n) (hroom : d' + 1 ≤ d ∧ 8 + (nL' + 11) + 64 * d' ≤ 64 * d) (hst : zrm st = true) (hmc : cells + mc' ≤ mc ∧ slots + ms' ≤ ms) (hd : decode cc pc = .ok (.invokevirtual idx, 3))
    (h : ZW own nm cc nL ret d mc ms V0 (cells + mc') (slots + ms') (pc + 3) ls (r1.toList ++ st) M1 r M') : ZW own nm cc nL ret d mc ms V0 cells slots pc ls (as.reverse ++ .ref b :: st) M r M' := by
  intro p l e s m args below meth c D cs A ψ φ0 φ H locs lsM hF hA hP hD hS hL
  obtain ⟨hx, hb, hr, hml, hown, hlk, hts, hE, hnm⟩ := id hF
  obtain ⟨k0, h1, h2⟩ := zWs_mem (cs := cs) (φ := φ) hb0
  rw [zEn_obj hs] at h2
  obtain ⟨w1, w2, w3, w4, w5, w6, w7⟩ := hw
  have hG : GoodIn zG (wsV own idx y.cls y (zWd y cc' nL' ret')) := fun w hw => by
    unfold wsV at hw
    simp only [List.mem_append, List.mem_cons, List.not_mem_nil, or_false] at hw
    rcases hw with (rfl | rfl | rfl | rfl) | hw
    · exact zG_GoodIn _ hl
    · exact zG_GoodIn _ w1
    · exact zG_GoodIn _ w2
    · exact zG_GoodIn _ w3
    · exact zWd_good w4 w hw
  have hrec := va_recv hE.1 hP (zcl_at hci) h2
  rw [hy] at hrec
  have hAg : zAg V0 M1.2.2.2 ψ φ0 φ := by rw [hV]; exact hA
  refine zAfter (va_runV (As := as.map (zSt φ)) (rest := st.map (zSt φ)) (b := φ b) ⟨hx, hb, hml, hown, hts⟩ (hM l D cs A ψ φ) (cwV n hts hG rfl rfl rfl ⟨rfl, w5, w6, w7⟩ hroom) ⟨zPc_blind, hrec, fun U hU hW => ?_⟩ rfl (by rw [List.length_map]; exact hn) hL.1 ?_ (lv_room (zcatR hst)) hd hmc) hV hS (fun H1 locs1 hP1 hD1 hS1 => ?_)
  · exact zPre_of (as := .ref b :: as) hE hA.2 hP hD hS U hU hW
  · show (as.reverse ++ .ref b :: st).map (zSt φ) = _
    rw [List.map_append, List.map_reverse, List.map_cons]
    rfl
  · exact h p l e s m args below meth c D cs A ψ φ0 φ H1 locs1 lsM hF hAg hP1 hD1 hS1 hL
theorem Z_callS {y : MethodName} {cc' : ByteArray} {nL' : Nat} {ret' : Option FieldType} {d' n idx mc' ms' : Nat} {as : List Value} {M1 : ZM} {r1 : Option Value} (hM : zMt y cc' nL' ret' d' mc' ms' as M r1 M1) (hV : M1.2.2.2 = M.2.2.2) (hw : zMS y cc' nL' ret' n) (hl : zMl own idx y) (hn : as.length = n) (hroom : d' + 1 ≤ d ∧ 8 + (nL' + 11) + 64 * d' ≤ 64 * d) (hst : zrm st = true) (hmc : cells + mc' ≤ mc ∧ slots + ms' ≤ ms) (hd : decode cc pc = .ok (.invokestatic idx, 3))
    (h : ZW own nm cc nL ret d mc ms V0 (cells + mc') (slots + ms') (pc + 3) ls (r1.toList ++ st) M1 r M') : ZW own nm cc nL ret d mc ms V0 cells slots pc ls (as.reverse ++ st) M r M' := by
  intro p l e s m args below meth c D cs A ψ φ0 φ H locs lsM hF hA hP hD hS hL
  obtain ⟨hx, hb, hr, hml, hown, hlk, hts, hE, hnm⟩ := id hF
  obtain ⟨w1, w3, w4, w5, w6, w7⟩ := hw
  have hG : GoodIn zG (va_wsS own idx y (zWd y cc' nL' ret')) := fun w hw => by
    unfold va_wsS at hw
    simp only [List.mem_append, List.mem_cons, List.not_mem_nil, or_false] at hw
    rcases hw with (rfl | rfl | rfl) | hw
    · exact zG_GoodIn _ hl
    · exact zG_GoodIn _ w1
    · exact zG_GoodIn _ w3
    · exact zWd_good w4 w hw
  have hAg : zAg V0 M1.2.2.2 ψ φ0 φ := by rw [hV]; exact hA
  refine zAfter (va_runS (As := as.map (zSt φ)) (rest := st.map (zSt φ)) ⟨hx, hb, hml, hown, hts⟩ (hM l D cs A ψ φ) (va_cwS n hts hG rfl rfl rfl ⟨w5, w6, w7⟩ hroom) ⟨zPc_blind, fun U hU hW => ?_⟩ rfl (by rw [List.length_map]; exact hn) hL.1 ?_ (lv_room (zcatR hst)) hd hmc) hV hS (fun H1 locs1 hP1 hD1 hS1 => ?_)
  · exact zPre_of hE hA.2 hP hD hS U hU hW
  · show (as.reverse ++ st).map (zSt φ) = _
    rw [List.map_append, List.map_reverse]
  · exact h p l e s m args below meth c D cs A ψ φ0 φ H1 locs1 lsM hF hAg hP1 hD1 hS1 hL
theorem Z_callSN {y : MethodName} {cc' : ByteArray} {nL' : Nat} {ret' : Option FieldType} {d' n idx mc' ms' : Nat} {as : List Value} {M1 : ZM} {r1 : Option Value} (hM : zMt y cc' nL' ret' d' mc' ms' as M r1 M1) (hV : M1.2.2.2 = M.2.2.2) (hw : zMS y cc' nL' ret' n) (hl : zMn own idx y) (hn : as.length = n) (hroom : d' + 1 ≤ d ∧ 8 + (nL' + 11) + 64 * d' ≤ 64 * d) (hst : zrm st = true) (hmc : cells + mc' ≤ mc ∧ slots + ms' ≤ ms) (hd : decode cc pc = .ok (.invokestatic idx, 3))
    (h : ZW own nm cc nL ret d mc ms V0 (cells + mc') (slots + ms') (pc + 3) ls (r1.toList ++ st) M1 r M') : ZW own nm cc nL ret d mc ms V0 cells slots pc ls (as.reverse ++ st) M r M' := by
  intro p l e s m args below meth c D cs A ψ φ0 φ H locs lsM hF hA hP hD hS hL
  obtain ⟨hx, hb, hr, hml, hown, hlk, hts, hE, hnm⟩ := id hF
  obtain ⟨w1, w3, w4, w5, w6, w7⟩ := hw
  obtain ⟨host, hl⟩ := hl
  have hAg : zAg V0 M1.2.2.2 ψ φ0 φ := by rw [hV]; exact hA
  refine zAfter (va_runSN (As := as.map (zSt φ)) (rest := st.map (zSt φ)) ⟨hx, hb, hml, hown, hts⟩ (hM l D cs A ψ φ) ⟨va_cnB n hts (zWd_good w4) rfl rfl rfl (hE.2.1 _ hl) (hts _ w3) ⟨w5, w6, w7⟩ hroom, hts _ w1, trivial⟩ ⟨zPc_blind, fun U hU hW => ?_⟩ rfl (by rw [List.length_map]; exact hn) hL.1 ?_ (lv_room (zcatR hst)) hd hmc) hV hS (fun H1 locs1 hP1 hD1 hS1 => ?_)
  · exact zPre_of hE hA.2 hP hD hS U hU hW
  · show (as.reverse ++ st).map (zSt φ) = _
    rw [List.map_append, List.map_reverse]
  · exact h p l e s m args below meth c D cs A ψ φ0 φ H1 locs1 lsM hF hAg hP1 hD1 hS1 hL
end ZCALL
/-! as instructions -/
def zpop : Nat → List Value → List Value → Option (List Value × List Value)
  | 0, st, acc => some (acc, st)
  | _ + 1, [], _ => none
  | k + 1, v :: st, acc => zpop k st (v :: acc)
theorem zpop_of : ∀ (k : Nat) (st acc as st' : List Value), zpop k st acc = some (as, st') → acc.reverse ++ st = as.reverse ++ st' ∧ as.length = acc.length + k := by
  intro k
  induction k with
  | zero =>
    intro st acc as st' h
    simp only [zpop, Option.some.injEq, Prod.mk.injEq] at h
    obtain ⟨rfl, rfl⟩ := h
    exact ⟨rfl, rfl⟩
  | succ k ih =>
    intro st acc as st' h
    cases st with
    | nil => simp [zpop] at h
    | cons v st =>
      obtain ⟨h1, h2⟩ := ih st (v :: acc) as st' h
      refine ⟨?_, by simp only [List.length_cons] at h2; omega⟩
      rw [← h1]
      simp
def zbI {μ ρ : Type} (o : Option (Option Value × μ)) (k : Int32 → μ → Option ρ) : Option ρ := match o with
  | some (some (.int x), M) => k x M
  | _ => none
def zbV {μ ρ : Type} (o : Option (Option Value × μ)) (k : μ → Option ρ) : Option ρ := match o with
  | some (none, M) => k M
  | _ => none
def zbA {μ ρ : Type} (o : Option (Option Value × μ)) (k : Nat → μ → Option ρ) : Option ρ := match o with
  | some (some (.ref x), M) => k x M
  | _ => none
def oCI {μ : Type} (n k : Nat) (chk : List Value → Bool) (F : List Value → μ → Option (Option Value × μ)) : zAct μ := fun nx ls st M => match zpop k st [] with
  | none => none
  | some (as, st') => bif chk as && zrm st' then zbI (F as M) (fun x M' => nx n ls (.int x :: st') M') else none
def oCV {μ : Type} (n k : Nat) (chk : List Value → Bool) (F : List Value → μ → Option (Option Value × μ)) : zAct μ := fun nx ls st M => match zpop k st [] with
  | none => none
  | some (as, st') => bif chk as && zrm st' then zbV (F as M) (fun M' => nx n ls st' M') else none
def oCA {μ : Type} (n k : Nat) (chk : List Value → Bool) (F : List Value → μ → Option (Option Value × μ)) : zAct μ := fun nx ls st M => match zpop k st [] with
  | none => none
  | some (as, st') => bif chk as && zrm st' then zbA (F as M) (fun x M' => nx n ls (.ref x :: st') M') else none
section ZCO
variable {μ : Type} (emb : μ → ZM) (own nm : String) (cc : ByteArray) (nL : Nat) (ret : Option FieldType) (d mc ms : Nat) (V0 : List Nat) (cells slots : Nat) (pc : Nat)
/-- a call that is right: what is behind it gives what is ahead of it -/
def zCO (k : Nat) (chk : List Value → Bool) (F : List Value → μ → Option (Option Value × μ)) : Prop := ∀ as st' M r1 M1, chk as = true → as.length = k → zrm st' = true → F as M = some (r1, M1) → ∀ ls r M', ZW own nm cc nL ret d mc ms V0 cells slots (pc + 3) ls (r1.toList ++ st') (emb M1) r M' → ZW own nm cc nL ret d mc ms V0 cells slots pc ls (as.reverse ++ st') (emb M) r M'
end ZCO
section ZCP
variable {μ : Type} {emb : μ → ZM} {own nm : String} {cc : ByteArray} {nL : Nat} {ret : Option FieldType} {d mc ms : Nat} {V0 : List Nat} {cells slots : Nat} {pc : Nat} {k : Nat} {chk : List Value → Bool} {F : List Value → μ → Option (Option Value × μ)}
theorem s_cI (h : zCO emb own nm cc nL ret d mc ms V0 cells slots pc k chk F) : zOk emb own nm cc nL ret d mc ms V0 cells slots pc (oCI (pc + 3) k chk F) := by
  refine ⟨fun ls st M => ?_, fun nx ls st M r M' ha hn => ?_⟩
  · unfold oCI
    cases hp : zpop k st [] with
    | none => exact Or.inl ⟨none, fun _ => rfl⟩
    | some q =>
      obtain ⟨as, st'⟩ := q
      cases hc : (chk as && zrm st') with
      | false => exact Or.inl ⟨none, fun _ => by simp only [hc]; rfl⟩
      | true =>
        cases hf : F as M with
        | none => exact Or.inl ⟨none, fun _ => by simp only [hc, hf]; rfl⟩
        | some x =>
          obtain ⟨r1, M1⟩ := x
          cases r1 with
          | none => exact Or.inl ⟨none, fun _ => by simp only [hc, hf]; rfl⟩
          | some v => cases v <;> first | exact Or.inr ⟨_, _, _, _, fun _ => by simp only [hc, hf]; rfl⟩ | exact Or.inl ⟨none, fun _ => by simp only [hc, hf]; rfl⟩
  · unfold oCI at ha
    cases hp : zpop k st [] with
    | none => rw [hp] at ha; cases ha
    | some q =>
      obtain ⟨as, st'⟩ := q
      rw [hp] at ha
      cases hc : (chk as && zrm st') with
      | false => simp only [hc, cond_false] at ha; cases ha
      | true =>
        simp only [hc, cond_true] at ha
        obtain ⟨q1, q2⟩ := zpop_of k st [] as st' hp
        simp only [List.reverse_nil, List.nil_append, List.length_nil, Nat.zero_add] at q1 q2
        simp only [Bool.and_eq_true] at hc
        cases hf : F as M with
        | none => rw [hf] at ha; cases ha
        | some x =>
          obtain ⟨r1, M1⟩ := x
          rw [hf] at ha
          cases r1 with
          | none => cases ha
          | some v =>
            cases v <;> first | (cases ha; done) | skip
            rw [q1]
            exact h as st' M _ M1 hc.1 q2 hc.2 hf ls r _ (hn _ _ _ _ ha)
theorem s_cV (h : zCO emb own nm cc nL ret d mc ms V0 cells slots pc k chk F) : zOk emb own nm cc nL ret d mc ms V0 cells slots pc (oCV (pc + 3) k chk F) := by
  refine ⟨fun ls st M => ?_, fun nx ls st M r M' ha hn => ?_⟩
  · unfold oCV
    cases hp : zpop k st [] with
    | none => exact Or.inl ⟨none, fun _ => rfl⟩
    | some q =>
      obtain ⟨as, st'⟩ := q
      cases hc : (chk as && zrm st') with
      | false => exact Or.inl ⟨none, fun _ => by simp only [hc]; rfl⟩
      | true =>
        cases hf : F as M with
        | none => exact Or.inl ⟨none, fun _ => by simp only [hc, hf]; rfl⟩
        | some x =>
          obtain ⟨r1, M1⟩ := x
          cases r1 with
          | none => exact Or.inr ⟨_, _, _, _, fun _ => by simp only [hc, hf]; rfl⟩
          | some v => exact Or.inl ⟨none, fun _ => by simp only [hc, hf]; rfl⟩
  · unfold oCV at ha
    cases hp : zpop k st [] with
    | none => rw [hp] at ha; cases ha
    | some q =>
      obtain ⟨as, st'⟩ := q
      rw [hp] at ha
      cases hc : (chk as && zrm st') with
      | false => simp only [hc, cond_false] at ha; cases ha
      | true =>
        simp only [hc, cond_true] at ha
        obtain ⟨q1, q2⟩ := zpop_of k st [] as st' hp
        simp only [List.reverse_nil, List.nil_append, List.length_nil, Nat.zero_add] at q1 q2
        simp only [Bool.and_eq_true] at hc
        cases hf : F as M with
        | none => rw [hf] at ha; cases ha
        | some x =>
          obtain ⟨r1, M1⟩ := x
          rw [hf] at ha
          cases r1 with
          | some v => cases ha
          | none =>
            rw [q1]
            exact h as st' M _ M1 hc.1 q2 hc.2 hf ls r _ (hn _ _ _ _ ha)
theorem s_cA (h : zCO emb own nm cc nL ret d mc ms V0 cells slots pc k chk F) : zOk emb own nm cc nL ret d mc ms V0 cells slots pc (oCA (pc + 3) k chk F) := by
  refine ⟨fun ls st M => ?_, fun nx ls st M r M' ha hn => ?_⟩
  · unfold oCA
    cases hp : zpop k st [] with
    | none => exact Or.inl ⟨none, fun _ => rfl⟩
    | some q =>
      obtain ⟨as, st'⟩ := q
      cases hc : (chk as && zrm st') with
      | false => exact Or.inl ⟨none, fun _ => by simp only [hc]; rfl⟩
      | true =>
        cases hf : F as M with
        | none => exact Or.inl ⟨none, fun _ => by simp only [hc, hf]; rfl⟩
        | some x =>
          obtain ⟨r1, M1⟩ := x
          cases r1 with
          | none => exact Or.inl ⟨none, fun _ => by simp only [hc, hf]; rfl⟩
          | some v => cases v <;> first | exact Or.inr ⟨_, _, _, _, fun _ => by simp only [hc, hf]; rfl⟩ | exact Or.inl ⟨none, fun _ => by simp only [hc, hf]; rfl⟩
  · unfold oCA at ha
    cases hp : zpop k st [] with
    | none => rw [hp] at ha; cases ha
    | some q =>
      obtain ⟨as, st'⟩ := q
      rw [hp] at ha
      cases hc : (chk as && zrm st') with
      | false => simp only [hc, cond_false] at ha; cases ha
      | true =>
        simp only [hc, cond_true] at ha
        obtain ⟨q1, q2⟩ := zpop_of k st [] as st' hp
        simp only [List.reverse_nil, List.nil_append, List.length_nil, Nat.zero_add] at q1 q2
        simp only [Bool.and_eq_true] at hc
        cases hf : F as M with
        | none => rw [hf] at ha; cases ha
        | some x =>
          obtain ⟨r1, M1⟩ := x
          rw [hf] at ha
          cases r1 with
          | none => cases ha
          | some v =>
            cases v <;> first | (cases ha; done) | skip
            rw [q1]
            exact h as st' M _ M1 hc.1 q2 hc.2 hf ls r _ (hn _ _ _ _ ha)
end ZCP
