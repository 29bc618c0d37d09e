/-! calls behind which more lives -/
theorem zAfterG {p : Program} {l : Launch} {e : Env} {R : Room} {s : State} {m : MethodId} {args : Array Value} {below : List Frame} {meth : Method} {c : Code} {H : Heap} {locs : List Loc} {cells slots mc' ms' : Nat} {Q : State → Prop} {D : va_G} {cs : Nat → ClassId} {A : Nat → Prop} {ψ φ0 φ : Nat → Nat} {V0 : List Nat} {M M1 : ZM} {r1 : Option Value} {a : Array Value} {pc nL lo : Nat} {lsM : Array Slot} {ls : List (Option Value)} {st0 st : List Value}
    (hr : va_Run p l e R s m args below meth c H locs cells slots mc' ms' (F0 m pc lsM st0) (st.map (zSt φ)) (zQc D cs A ψ φ M.2.2.2 r1 M1 a) A) (hA : zAg V0 M.2.2.2 ψ φ0 φ) (hV0 : ∀ x ∈ V0, x ∈ M.2.2.2) (hsub : ∀ x ∈ M.2.2.2, x ∈ M1.2.2.2) (hnew : ∀ x ∈ M1.2.2.2, x ∉ M.2.2.2 → lo ≤ x) (hst : rB lo st) (hls : rBl lo ls) (hS : va_S A s.heap H locs) (hL : zLc lsM nL φ ls)
    (kk : ∀ (φ' : Nat → Nat) (H1 : Heap) (locs1 : List Loc), zAg V0 M1.2.2.2 ψ φ0 φ' → va_P D vwCl (zWs cs φ' M1) H1 → va_D A (zWs cs φ' M1) → va_S A s.heap H1 locs1 → zLc lsM nL φ' ls → W p l e R s m args below meth c H1 locs1 (cells + mc') (slots + ms') Q (F0 m (pc + 3) lsM ((r1.toList ++ st).map (zSt φ')))) :
    W p l e R s m args below meth c H locs cells slots Q (F0 m pc lsM st0) := by
  intro T hT X
  obtain ⟨v, st₀, t, T', L, h0, X', hL2, e1, e2, ⟨φ', hag, hv, hP1, hD1, hz, hk⟩, stp⟩ := hr T hT X
  cases hv
  rw [h0] at hz hk
  have hφl : ∀ x, x < lo → φ' x = φ x := by
    intro x hx
    refine hag.1 x ?_
    by_cases h1 : x ∈ M1.2.2.2
    · by_cases h2 : x ∈ M.2.2.2
      · exact Or.inl h2
      · have := hnew x h1 h2
        omega
    · exact Or.inr h1
  have hA' : zAg V0 M1.2.2.2 ψ φ0 φ' := by
    refine ⟨fun x hx => ?_, hag.2⟩
    rcases hx with h | h
    · rw [hag.1 x (Or.inl (hV0 x h))]
      exact hA.1 x (Or.inl h)
    · rw [hag.1 x (Or.inr h)]
      exact hA.1 x (Or.inr (fun c => h (hsub x c)))
  obtain ⟨t2, a1, b1⟩ := kk φ' T'.heap (locs ++ L) hA' (by rw [e1]; exact hP1) hD1 ⟨Nat.le_trans hS.1 (by rw [e1]; exact hz), fun q h1 h2 => by
      rw [e1, hk q (Nat.lt_of_lt_of_le h1 hS.1) h2]
      exact hS.2.1 q h1 h2, fun q hq => by
      rcases List.mem_append.mp hq with h | h
      · exact hS.2.2 q h
      · exact hL2 q h⟩ ⟨hL.1, hL.2.1, fun i v hi => by rw [rBl_at hφl hls i v hi]; exact hL.2.2 i v hi⟩ T' rfl X'
  refine ⟨t2, stp t2 ?_, b1⟩
  rw [List.map_append, rB_map hφl hst] at a1
  have e3 : (r1.map (zSt φ')).toList = r1.toList.map (zSt φ') := by cases r1 <;> rfl
  rw [e3]
  exact a1
/-- of a constructor -/
def zMI (y : MethodName) (cc : ByteArray) (nL : Nat) (n : Nat) : Prop := Cond.instanceMethod y ∈ zG ∧ Cond.initialized y.cls ∈ zG ∧ Cond.code y cc nL none ∈ zG ∧ y.cls ≠ "java/lang/invoke/MethodHandle" ∧ y.cls ≠ "java/lang/invoke/VarHandle" ∧ (parseMethodDescriptor y.desc).map (fun d => d.parameters.length) = some n ∧ y.name = "<init>"
section ZCALG
variable {own nm : String} {cc : ByteArray} {nL : Nat} {ret : Option FieldType} {d mc ms : Nat} {V0 : List Nat} {cells slots : Nat} {pc : Nat} {ls : List (Option Value)} {st : List Value} {M : ZM} {r : Option Value} {M' : ZM}
theorem Z_callC {y : MethodName} {cc' : ByteArray} {nL' d' n idx b mc' ms' lo : Nat} {as : List Value} {M1 : ZM} (hM : zMt y cc' nL' none d' mc' ms' (.ref b :: as) M none M1) (hV0 : ∀ x ∈ V0, x ∈ M.2.2.2) (hsub : ∀ x ∈ M.2.2.2, x ∈ M1.2.2.2) (hnew : ∀ x ∈ M1.2.2.2, x ∉ M.2.2.2 → lo ≤ x) (hrs : rB lo st) (hrl : rBl lo ls) (hw : zMI y cc' nL' n) (hl : zMl own idx y ∨ zMn own idx y) (hn : as.length = n) (hroom : d' + 1 ≤ d ∧ 8 + (nL' + 11) + 64 * d' ≤ 64 * d) (hst : zrm st = true) (hmc : cells + mc' ≤ mc ∧ slots + ms' ≤ ms) (hd : decode cc pc = .ok (.invokespecial idx, 3))
    (h : ZW own nm cc nL ret d mc ms V0 (cells + mc') (slots + ms') (pc + 3) ls st M1 r M') : ZW own nm cc nL ret d mc ms V0 cells slots pc ls (as.reverse ++ .ref b :: st) M r M' := by
  intro p l e s m args below meth c D cs A ψ φ0 φ H locs lsM hF hA hP hD hS hL
  obtain ⟨hx, hb, hr, hml, hown, hlk, hts, hE, hnm⟩ := id hF
  obtain ⟨w1, w3, w4, w5, w6, w7, w8⟩ := hw
  have estk : (as.reverse ++ .ref b :: st).map (zSt φ) = (as.map (zSt φ)).reverse ++ .ref (φ b) :: st.map (zSt φ) := by
    rw [List.map_append, List.map_reverse, List.map_cons]
    rfl
  rcases hl with hl | ⟨host, hl⟩
  · refine zAfterG (M := M) (M1 := M1) (r1 := none) (lo := lo) (va_runI (As := as.map (zSt φ)) (rest := st.map (zSt φ)) (b := φ b) ⟨hx, hb, hml, hown, hts⟩ (hM l D cs A ψ φ) ⟨callB_of n hts (zWd_good w4) rfl rfl rfl (hts _ w3) (hts _ hl) ⟨w5, w6, w7⟩ hroom, w8, hts _ w1⟩ ⟨zPc_blind, fun U hU hW => zPre_of (as := .ref b :: as) hE hA.2 hP hD hS U hU hW⟩ rfl (by rw [List.length_map]; exact hn) hL.1 estk (lv_room (zcatR hst)) hd hmc) hA hV0 hsub hnew hrs hrl hS hL (fun φ' H1 locs1 hA1 hP1 hD1 hS1 hL1 => ?_)
    exact h p l e s m args below meth c D cs A ψ φ0 φ' H1 locs1 lsM hF hA1 hP1 hD1 hS1 hL1
  · refine zAfterG (M := M) (M1 := M1) (r1 := none) (lo := lo) (va_runIN (As := as.map (zSt φ)) (rest := st.map (zSt φ)) (b := φ b) ⟨hx, hb, hml, hown, hts⟩ (hM l D cs A ψ φ) ⟨va_cnB n hts (zWd_good w4) rfl rfl rfl (hE.2.1 _ hl) (hts _ w3) ⟨w5, w6, w7⟩ hroom, w8, hts _ w1⟩ ⟨zPc_blind, fun U hU hW => zPre_of (as := .ref b :: as) hE hA.2 hP hD hS U hU hW⟩ rfl (by rw [List.length_map]; exact hn) hL.1 estk (lv_room (zcatR hst)) hd hmc) hA hV0 hsub hnew hrs hrl hS hL (fun φ' H1 locs1 hA1 hP1 hD1 hS1 hL1 => ?_)
    exact h p l e s m args below meth c D cs A ψ φ0 φ' H1 locs1 lsM hF hA1 hP1 hD1 hS1 hL1
/-- a method of an object, behind which more may live -/
theorem Z_callG {y : MethodName} {cc' : ByteArray} {nL' : Nat} {ret' : Option FieldType} {d' n idx b ci mc' ms' lo : Nat} {as : List Value} {M1 : ZM} {r1 : Option Value} (hM : zMt y cc' nL' ret' d' mc' ms' (.ref b :: as) M r1 M1) (hV0 : ∀ x ∈ V0, x ∈ M.2.2.2) (hsub : ∀ x ∈ M.2.2.2, x ∈ M1.2.2.2) (hnew : ∀ x ∈ M1.2.2.2, x ∉ M.2.2.2 → lo ≤ x) (hrs : rB lo st) (hrl : rBl lo ls) (hb0 : b ∈ M.2.2.2) (hs : zS b = (1, ci)) (hci : ci < 13) (hy : (zcl ci).1 = y.cls) (hw : zMV y cc' nL' ret' n) (hl : zMl own idx y) (hn : as.length = n) (hroom : d' + 1 ≤ d ∧ 8 + (nL' + 11) + 64 * d' ≤ 64 * d) (hst : zrm st = true) (hmc : cells + mc' ≤ mc ∧ slots + ms' ≤ ms) (hd : decode cc pc = .ok (.invokevirtual idx, 3))
    (h : ZW own nm cc nL ret d mc ms V0 (cells + mc') (slots + ms') (pc + 3) ls (r1.toList ++ st) M1 r M') : ZW own nm cc nL ret d mc ms V0 cells slots pc ls (as.reverse ++ .ref b :: st) M r M' := by
  intro p l e s m args below meth c D cs A ψ φ0 φ H locs lsM hF hA hP hD hS hL
  obtain ⟨hx, hb, hr, hml, hown, hlk, hts, hE, hnm⟩ := id hF
  obtain ⟨k0, h1, h2⟩ := zWs_mem (cs := cs) (φ := φ) hb0
  rw [zEn_obj hs] at h2
  obtain ⟨w1, w2, w3, w4, w5, w6, w7⟩ := hw
  have hG : GoodIn zG (wsV own idx y.cls y (zWd y cc' nL' ret')) := fun w hw => by
    unfold wsV at hw
    simp only [List.mem_append, List.mem_cons, List.not_mem_nil, or_false] at hw
    rcases hw with (rfl | rfl | rfl | rfl) | hw
    · exact zG_GoodIn _ hl
    · exact zG_GoodIn _ w1
    · exact zG_GoodIn _ w2
    · exact zG_GoodIn _ w3
    · exact zWd_good w4 w hw
  have hrec := va_recv hE.1 hP (zcl_at hci) h2
  rw [hy] at hrec
  refine zAfterG (M := M) (M1 := M1) (r1 := r1) (lo := lo) (va_runV (As := as.map (zSt φ)) (rest := st.map (zSt φ)) (b := φ b) ⟨hx, hb, hml, hown, hts⟩ (hM l D cs A ψ φ) (cwV n hts hG rfl rfl rfl ⟨rfl, w5, w6, w7⟩ hroom) ⟨zPc_blind, hrec, fun U hU hW => ?_⟩ rfl (by rw [List.length_map]; exact hn) hL.1 ?_ (lv_room (zcatR hst)) hd hmc) hA hV0 hsub hnew hrs hrl hS hL (fun φ' H1 locs1 hA1 hP1 hD1 hS1 hL1 => ?_)
  · exact zPre_of (as := .ref b :: as) hE hA.2 hP hD hS U hU hW
  · show (as.reverse ++ .ref b :: st).map (zSt φ) = _
    rw [List.map_append, List.map_reverse, List.map_cons]
    rfl
  · exact h p l e s m args below meth c D cs A ψ φ0 φ' H1 locs1 lsM hF hA1 hP1 hD1 hS1 hL1
end ZCALG
/-! memories that are the same in what lives -/
def zEqv (M M' : ZM) : Prop := M.2.2.2.Nodup ∧ M'.2.2.2.Nodup ∧ (∀ x, x ∈ M.2.2.2 ↔ x ∈ M'.2.2.2) ∧ ∀ x ∈ M.2.2.2, ∀ cs φ, zEn cs φ M x = zEn cs φ M' x
theorem zEqv_P {M M' : ZM} (h : zEqv M M') {D : va_G} {cs : Nat → ClassId} {φ : Nat → Nat} {H : Heap} (hP : va_P D vwCl (zWs cs φ M) H) : va_P D vwCl (zWs cs φ M') H := by
  intro k q hk
  unfold zWs at hk
  rw [List.getElem?_map] at hk
  cases hx : M'.2.2.2[k]? with
  | none => rw [hx] at hk; cases hk
  | some x =>
    rw [hx] at hk
    simp only [Option.map_some, Option.some.injEq] at hk
    subst hk
    have hm : x ∈ M.2.2.2 := (h.2.2.1 x).2 (List.mem_of_getElem? hx)
    obtain ⟨j, h1, h2⟩ := zWs_mem (cs := cs) (φ := φ) hm
    have := hP j _ h2
    rw [h.2.2.2 x hm cs φ] at this
    exact this
theorem zEqv_D {M M' : ZM} (h : zEqv M M') {A : Nat → Prop} {cs : Nat → ClassId} {φ : Nat → Nat} (hD : va_D A (zWs cs φ M)) : va_D A (zWs cs φ M') := by
  have at' : ∀ (k : Nat) (q : Nat × va_E), (zWs cs φ M')[k]? = some q → ∃ x, M'.2.2.2[k]? = some x ∧ q.1 = φ x := by
    intro k q hk
    unfold zWs at hk
    rw [List.getElem?_map] at hk
    cases hx : M'.2.2.2[k]? with
    | none => rw [hx] at hk; cases hk
    | some x =>
      rw [hx] at hk
      simp only [Option.map_some, Option.some.injEq] at hk
      subst hk
      exact ⟨x, rfl, rfl⟩
  refine ⟨fun i j p q hi hj hpq => ?_, fun k q hk => ?_⟩
  · obtain ⟨x, hx, ex⟩ := at' i p hi
    obtain ⟨y, hy, ey⟩ := at' j q hj
    obtain ⟨i', h1, h2⟩ := zWs_mem (cs := cs) (φ := φ) ((h.2.2.1 x).2 (List.mem_of_getElem? hx))
    obtain ⟨j', g1, g2⟩ := zWs_mem (cs := cs) (φ := φ) ((h.2.2.1 y).2 (List.mem_of_getElem? hy))
    have e := hD.1 i' j' _ _ h2 g2 (by show φ x = φ y; rw [← ex, ← ey, hpq])
    subst e
    have exy : x = y := Option.some.inj (h1.symm.trans g1)
    subst exy
    have hi2 := (List.getElem?_eq_some_iff.mp hx).1
    exact (List.getElem?_inj hi2 h.2.1).1 (hx.trans hy.symm)
  · obtain ⟨x, hx, ex⟩ := at' k q hk
    obtain ⟨i', h1, h2⟩ := zWs_mem (cs := cs) (φ := φ) ((h.2.2.1 x).2 (List.mem_of_getElem? hx))
    rw [ex]
    exact hD.2 i' _ h2
theorem zEqv_s {M M' : ZM} (h : zEqv M M') : zEqv M' M := ⟨h.2.1, h.1, fun x => (h.2.2.1 x).symm, fun x hx cs φ => (h.2.2.2 x ((h.2.2.1 x).2 hx) cs φ).symm⟩
theorem zEqv_A {M M' : ZM} (h : zEqv M M') {V0 : List Nat} {ψ φ0 φ : Nat → Nat} (hA : zAg V0 M.2.2.2 ψ φ0 φ) : zAg V0 M'.2.2.2 ψ φ0 φ := ⟨fun x hx => hA.1 x (by
  rcases hx with h1 | h1
  · exact Or.inl h1
  · exact Or.inr (fun c => h1 ((h.2.2.1 x).1 c))), hA.2⟩
/-- a method's contract, for memories that are the same in what lives -/
theorem zMt_eqv {y : MethodName} {cc : ByteArray} {nL : Nat} {ret : Option FieldType} {d mc ms : Nat} {as : List Value} {M N : ZM} {r : Option Value} {M' N' : ZM} (h : zMt y cc nL ret d mc ms as M r M') (h1 : zEqv N M) (h2 : zEqv M' N') : zMt y cc nL ret d mc ms as N r N' := by
  intro l D cs A ψ φ
  have q := h l D cs A ψ φ
  refine MetFree.mono q ?_ (fun _ _ _ _ _ h => h) ?_
  · rintro v U ⟨a1, a2, a3, a4, a5⟩
    exact ⟨a1, a2, a3, zEqv_P h1 a4, zEqv_D h1 a5⟩
  · rintro v st oc t _ ⟨⟨φ', b1, b2, b3, b4, b5⟩, hL⟩
    refine ⟨⟨φ', ⟨fun x hx => b1.1 x ?_, b1.2⟩, b2, zEqv_P h2 b3, zEqv_D h2 b4, b5⟩, hL⟩
    rcases hx with c | c
    · exact Or.inl ((h1.2.2.1 x).1 c)
    · exact Or.inr (fun z => c ((h2.2.2.1 x).1 z))
/-! what lives while things are made: V1, and all from b up to y -/
def AVx (M : ZM) (V1 : List Nat) (b y : Nat) : Prop := b ≤ y ∧ M.2.2.2 = V1 ++ List.range' b (y - b) ∧ zCl M
def FRx (V1 : List Nat) (b hi : Nat) : Prop := ∀ z, b ≤ z → z < hi → z ∉ V1
theorem AV_mem {M : ZM} {V1 : List Nat} {b y z : Nat} (h : AVx M V1 b y) : z ∈ M.2.2.2 ↔ z ∈ V1 ∨ (b ≤ z ∧ z < y) := by
  have h1 := h.1
  rw [h.2.1, List.mem_append, List.mem_range'_1]
  constructor
  · rintro (a | a)
    · exact Or.inl a
    · exact Or.inr (by omega)
  · rintro (a | a)
    · exact Or.inl a
    · exact Or.inr (by omega)
theorem AV_in {M : ZM} {V1 : List Nat} {b y z : Nat} (h : AVx M V1 b y) (h1 : b ≤ z) (h2 : z < y) : z ∈ M.2.2.2 := (AV_mem h).2 (Or.inr ⟨h1, h2⟩)
theorem AV_fr {M : ZM} {V1 : List Nat} {b y z hi : Nat} (h : AVx M V1 b y) (hf : FRx V1 b hi) (h1 : y ≤ z) (h2 : z < hi) : z ∉ M.2.2.2 := by
  intro c
  have h3 := h.1
  rcases (AV_mem h).1 c with a | a
  · exact hf z (by omega) h2 a
  · omega
theorem AV_cl {M : ZM} {V1 : List Nat} {b y : Nat} (h : AVx M V1 b y) : zCl M := h.2.2
theorem AV_nw {M : ZM} {V1 : List Nat} {b y : Nat} (h : AVx M V1 b y) : AVx (nw M y) V1 b (y + 1) := by
  obtain ⟨h1, h2, h3⟩ := h
  have e : (nw M y).2.2.2 = V1 ++ List.range' b (y + 1 - b) := by
    show M.2.2.2 ++ [y] = _
    rw [h2, show y + 1 - b = (y - b) + 1 from by omega, List.range'_concat, ← List.append_assoc, show b + 1 * (y - b) = y from by omega]
  refine ⟨by omega, e, fun x hx k z hz => ?_⟩
  by_cases hxy : x = y
  · subst hxy
    have : (nw M x).2.2.1 x k = none := by
      show zrR M.2.2.1 x (fun _ => none) x k = none
      rw [zrR_row]
    rw [this] at hz
    cases hz
  · have hz' : M.2.2.1 x k = some z := by
      have : (nw M y).2.2.1 x k = M.2.2.1 x k := by
        show zrR M.2.2.1 y (fun _ => none) x k = _
        rw [zrR_ne hxy]
      rw [← this]
      exact hz
    have hxm : x ∈ M.2.2.2 := by
      have : x ∈ M.2.2.2 ++ [y] := hx
      rcases List.mem_append.1 this with a | a
      · exact a
      · exact absurd (List.mem_singleton.1 a) hxy
    exact List.mem_append.2 (Or.inl (h3 x hxm k z hz'))
theorem AV_pt {M : ZM} {V1 : List Nat} {b y a k v : Nat} (h : AVx M V1 b y) (hv : v ∈ M.2.2.2) : AVx (ptR M a k v) V1 b y := by
  obtain ⟨h1, h2, h3⟩ := h
  refine ⟨h1, h2, fun x hx j z hz => ?_⟩
  have hz' : zuR M.2.2.1 a k (some v) x j = some z := hz
  by_cases e : x = a
  · subst e
    rw [zuR_row] at hz'
    dsimp only at hz'
    by_cases e2 : j = k
    · rw [if_pos e2] at hz'
      cases hz'
      exact hv
    · rw [if_neg e2] at hz'
      exact h3 x hx j z hz'
  · rw [zuR_ne e] at hz'
    exact h3 x hx j z hz'
theorem AV_pi {M : ZM} {V1 : List Nat} {b y a k : Nat} {v : Int32} (h : AVx M V1 b y) : AVx (ptI M a k v) V1 b y := ⟨h.1, h.2.1, h.2.2⟩
theorem AV_sub {M M1 : ZM} {V1 : List Nat} {b y y1 : Nat} (h : AVx M V1 b y) (h1 : AVx M1 V1 b y1) (hy : y ≤ y1) : ∀ x ∈ M.2.2.2, x ∈ M1.2.2.2 := by
  intro x hx
  rcases (AV_mem h).1 hx with a | a
  · exact (AV_mem h1).2 (Or.inl a)
  · exact (AV_mem h1).2 (Or.inr (by omega))
theorem AV_new {M M1 : ZM} {V1 : List Nat} {b y y1 : Nat} (h : AVx M V1 b y) (h1 : AVx M1 V1 b y1) : ∀ x ∈ M1.2.2.2, x ∉ M.2.2.2 → y ≤ x := by
  intro x hx hn
  rcases (AV_mem h1).1 hx with a | a
  · exact absurd ((AV_mem h).2 (Or.inl a)) hn
  · by_cases c : y ≤ x
    · exact c
    · exact absurd ((AV_mem h).2 (Or.inr (by omega))) hn
section ZKK
variable {own nm : String} {cc : ByteArray} {nL : Nat} {ret : Option FieldType} {d mc ms : Nat} {V0 : List Nat} {cells slots : Nat} {pc : Nat} {ls : List (Option Value)} {st : List Value} {M : ZM} {r : Option Value} {M' : ZM}
theorem Z_iasK {a n j : Nat} {i x : Int32} (ha : a ∈ M.2.2.2) (hs : zS a = (2, n)) (hin : vp_in i n) (hj : i.toNatClampNeg = j) (hd : decode cc pc = .ok (.iastore, 1)) (h : ZW own nm cc nL ret d mc ms V0 cells slots (pc + 1) ls st (ptI M a j x) r M') : ZW own nm cc nL ret d mc ms V0 cells slots pc ls (.int x :: .int i :: .ref a :: st) M r M' := by
  subst hj
  exact Z_iast ha hs hin hd h
theorem Z_aasK {a b n j : Nat} {i : Int32} (ha : a ∈ M.2.2.2) (hs : zS a = (4, n)) (hb0 : b ∈ M.2.2.2) (hsb : zS b = (1, 3)) (hin : vp_in i n) (hj : i.toNatClampNeg = j) (hd : decode cc pc = .ok (.aastore, 1)) (h : ZW own nm cc nL ret d mc ms V0 cells slots (pc + 1) ls st (ptR M a j b) r M') : ZW own nm cc nL ret d mc ms V0 cells slots pc ls (.ref b :: .int i :: .ref a :: st) M r M' := by
  subst hj
  exact Z_aast ha hs hb0 hsb hin hd h
end ZKK
