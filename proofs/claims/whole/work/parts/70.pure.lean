/-! THE MAKING OF OBJECTS: steps at ZW on a memory whose references and whose living change -/
def zrL (I : zL) (a : Nat) (f : Nat → Int64) : zL := fun b => if b = a then f else I b
def zrR (I : zRt) (a : Nat) (f : Nat → Option Nat) : zRt := fun b => if b = a then f else I b
theorem zrL_ne {I : zL} {a b : Nat} {f : Nat → Int64} (h : b ≠ a) : zrL I a f b = I b := by simp [zrL, h]
theorem zrL_row {I : zL} {a : Nat} {f : Nat → Int64} : zrL I a f a = f := by simp [zrL]
theorem zrR_ne {I : zRt} {a b : Nat} {f : Nat → Option Nat} (h : b ≠ a) : zrR I a f b = I b := by simp [zrR, h]
theorem zrR_row {I : zRt} {a : Nat} {f : Nat → Option Nat} : zrR I a f a = f := by simp [zrR]
def nw (M : ZM) (a : Nat) : ZM := (zr M.1 a (fun _ => 0), zrL M.2.1 a (fun _ => 0), zrR M.2.2.1 a (fun _ => none), M.2.2.2 ++ [a])
def ptR (M : ZM) (a k b : Nat) : ZM := (M.1, M.2.1, zuR M.2.2.1 a k (some b), M.2.2.2)
def ptI (M : ZM) (a k : Nat) (v : Int32) : ZM := (zu M.1 a k v, M.2)
/-- what lives refers to what lives -/
def zCl (M : ZM) : Prop := ∀ x ∈ M.2.2.2, ∀ k y, M.2.2.1 x k = some y → y ∈ M.2.2.2
/-- all references are below -/
def rB (lo : Nat) : List Value → Prop
  | [] => True
  | .ref x :: r => @LT.lt Nat _ x lo ∧ rB lo r
  | _ :: r => rB lo r
def rBl (lo : Nat) : List (Option Value) → Prop
  | [] => True
  | some (.ref x) :: r => @LT.lt Nat _ x lo ∧ rBl lo r
  | _ :: r => rBl lo r
theorem rB_map {φ φ' : Nat → Nat} {lo : Nat} (hφ : ∀ x, x < lo → φ' x = φ x) : ∀ {st : List Value}, rB lo st → st.map (zSt φ') = st.map (zSt φ) := by
  intro st
  induction st with
  | nil => intro _; rfl
  | cons v r ih =>
    intro h
    cases v with
    | ref x =>
      obtain ⟨h1, h2⟩ := h
      rw [List.map_cons, List.map_cons, ih h2]
      show Value.ref (φ' x) :: _ = Value.ref (φ x) :: _
      rw [hφ x h1]
    | _ => rw [List.map_cons, List.map_cons, ih h]; rfl
theorem rBl_at {φ φ' : Nat → Nat} {lo : Nat} (hφ : ∀ x, x < lo → φ' x = φ x) : ∀ {ls : List (Option Value)}, rBl lo ls → ∀ (i : Nat) (v : Value), ls[i]? = some (some v) → zSt φ' v = zSt φ v := by
  intro ls
  induction ls with
  | nil => intro _ i v hi; simp at hi
  | cons o r ih =>
    intro h i v hi
    cases i with
    | zero =>
      rw [List.getElem?_cons_zero] at hi
      have e : o = some v := Option.some.inj hi
      subst e
      cases v with
      | ref x =>
        show Value.ref (φ' x) = Value.ref (φ x)
        rw [hφ x h.1]
      | _ => rfl
    | succ i =>
      rw [List.getElem?_cons_succ] at hi
      have h2 : rBl lo r := by
        cases o with
        | none => exact h
        | some w => cases w <;> first | exact h.2 | exact h
      exact ih h2 i v hi
theorem zen_cg {cs : Nat → ClassId} {φ φ' : Nat → Nat} {f : Nat → Int32} {g : Nat → Int64} {r : Nat → Option Nat} (hr : ∀ k y, r k = some y → φ' y = φ y) (sh : Nat × Nat) : zen cs φ' f g r sh = zen cs φ f g r sh := by
  have e : ∀ k, (r k).map φ' = (r k).map φ := by
    intro k
    cases h : r k with
    | none => rfl
    | some y => rw [Option.map_some, Option.map_some, hr k y h]
  unfold zen
  split
  · simp only [e]
  · rfl
  · rfl
  · simp only [e]
  · rfl
theorem zWs_new {cs : Nat → ClassId} {φ φ' : Nat → Nat} {M M' : ZM} {a : Nat} (hV : M'.2.2.2 = M.2.2.2 ++ [a]) (hfr : a ∉ M.2.2.2) (hcl : zCl M) (hφ : ∀ x, x ≠ a → φ' x = φ x) (hrow : ∀ x, x ≠ a → M'.1 x = M.1 x ∧ M'.2.1 x = M.2.1 x ∧ M'.2.2.1 x = M.2.2.1 x) : zWs cs φ' M' = zWs cs φ M ++ [(φ' a, zEn cs φ' M' a)] := by
  unfold zWs
  rw [hV, List.map_append]
  congr 1
  apply List.map_congr_left
  intro x hx
  have hxa : x ≠ a := fun e => hfr (e ▸ hx)
  obtain ⟨h1, h2, h3⟩ := hrow x hxa
  rw [hφ x hxa]
  congr 1
  unfold zEn
  rw [h1, h2, h3]
  exact zen_cg (fun k y hy => hφ y (fun e => hfr (e ▸ hcl x hx k y hy))) _
theorem zAg_new {V0 : List Nat} {ψ φ0 φ φ' : Nat → Nat} {V : List Nat} {a : Nat} (hA : zAg V0 V ψ φ0 φ) (hφ : ∀ x, x ≠ a → φ' x = φ x) (ha0 : a ∉ V0) (h1000 : a < 1000) : zAg V0 (V ++ [a]) ψ φ0 φ' := by
  refine ⟨fun x hx => ?_, fun i => ?_⟩
  · have hxa : x ≠ a := by
      intro e
      subst e
      rcases hx with h | h
      · exact ha0 h
      · exact h (List.mem_append.2 (Or.inr (List.mem_singleton.2 rfl)))
    rw [hφ x hxa]
    refine hA.1 x ?_
    rcases hx with h | h
    · exact Or.inl h
    · exact Or.inr (fun c => h (List.mem_append.2 (Or.inl c)))
  · rw [hφ _ (by omega)]
    exact hA.2 i
def zph (φ : Nat → Nat) (a q : Nat) : Nat → Nat := fun x => if x = a then q else φ x
theorem zph_ne {φ : Nat → Nat} {a q x : Nat} (h : x ≠ a) : zph φ a q x = φ x := by simp [zph, h]
theorem zph_eq {φ : Nat → Nat} {a q : Nat} : zph φ a q a = q := by simp [zph]
set_option maxRecDepth 20000 in
theorem zdef : ∀ ci, ci < 13 → ∀ j, j < (zcl ci).2.2 → defaultValue (zty ci j) = vp_V ((List.range (zcl ci).2.2).map (fun k => if zIsR ci k then Value.null else .int 0)) j := by decide +kernel
section ZNEW
variable {own nm : String} {cc : ByteArray} {nL : Nat} {ret : Option FieldType} {d mc ms : Nat} {V0 : List Nat} {cells slots : Nat} {pc : Nat} {ls : List (Option Value)} {st : List Value} {M : ZM} {r : Option Value} {M' : ZM}
/-- a step of the pure machine as a step here -/
theorem ZW_st {pc' : Nat} {act : zAct ZM} {ls' : List (Option Value)} {st' : List Value} {M1 : ZM} (h : zOk (fun M => M) own nm cc nL ret d mc ms V0 cells slots pc act) (ha : ∀ nx : zK ZM, act nx ls st M = nx pc' ls' st' M1) (k : ZW own nm cc nL ret d mc ms V0 cells slots pc' ls' st' M1 r M') : ZW own nm cc nL ret d mc ms V0 cells slots pc ls st M r M' := by
  refine h.2 (fun a b c e => @ite _ (a = pc' ∧ b = ls' ∧ c = st' ∧ e = M1) (Classical.propDecidable _) (some (r, M')) none) ls st M r M' ?_ ?_
  · rw [ha, if_pos ⟨rfl, rfl, rfl, rfl⟩]
  · intro a b c e he
    by_cases hc : a = pc' ∧ b = ls' ∧ c = st' ∧ e = M1
    · obtain ⟨rfl, rfl, rfl, rfl⟩ := hc
      exact k
    · rw [if_neg hc] at he
      cases he
/-- a return -/
theorem ZW_rt {act : zAct ZM} (h : zOk (fun M => M) own nm cc nL ret d mc ms V0 cells slots pc act) (ha : ∀ nx : zK ZM, act nx ls st M = some (r, M')) : ZW own nm cc nL ret d mc ms V0 cells slots pc ls st M r M' :=
  h.2 (fun _ _ _ _ => none) ls st M r M' (ha _) (fun _ _ _ _ he => by cases he)
theorem ZW_wide {k n : Nat} (hk : cells ≤ k) (hn : slots ≤ n) (h : ZW own nm cc nL ret d mc ms V0 k n pc ls st M r M') : ZW own nm cc nL ret d mc ms V0 cells slots pc ls st M r M' := by
  intro p l e s m args below meth c D cs A ψ φ0 φ H locs lsM hF hA hP hD hS hL
  exact W.widen (k := k) (n := n) hk hn (h p l e s m args below meth c D cs A ψ φ0 φ H locs lsM hF hA hP hD hS hL)
theorem Z_new {ci idx a : Nat} (hs : zS a = (1, ci)) (hci : ci < 13) (hfr : a ∉ M.2.2.2) (ha0 : a ∉ V0) (h1000 : a < 1000) (hcl : zCl M) (hst : rB a st) (hls : rBl a ls) (hlink : Cond.classLink own idx (zcl ci).1 ∈ zG) (hinst : Cond.instantiable (zcl ci).1 (zcl ci).2.2 ∈ zG) (hini : Cond.initialized (zcl ci).1 ∈ zG) (hroom : cells + 1 ≤ mc ∧ slots + (zcl ci).2.2 ≤ ms) (hd : decode cc pc = .ok (.new idx, 3))
    (h : ZW own nm cc nL ret d mc ms V0 (cells + 1) (slots + (zcl ci).2.2) (pc + 3) ls (.ref a :: st) (nw M a) r M') : ZW own nm cc nL ret d mc ms V0 cells slots pc ls st M r M' := by
  intro p l e s m args below meth c D cs A ψ φ0 φ H locs lsM hF hA hP hD hS hL
  obtain ⟨hx, hb, hr, hml, hown, hlk, hts, hE, hnm⟩ := id hF
  refine va_new hx hb hts (zin ci hci) (zty ci) (ztyk ci hci) hown (hts _ hlink) (hts _ hinst) (hts _ hini) hE.1 hP hD hS hE.2.2.1 (zcl_at hci) (zdef ci hci) hroom.1 hroom.2 hd (fun q H1 hP1 hD1 hS1 => ?_)
  have hφ : ∀ x, x ≠ a → zph φ a q x = φ x := fun x hx => zph_ne hx
  have hφl : ∀ x, x < a → zph φ a q x = φ x := fun x hx => zph_ne (by omega)
  have ew : zWs cs (zph φ a q) (nw M a) = zWs cs φ M ++ [(q, .inr (ci, (List.range (zcl ci).2.2).map (fun k => if zIsR ci k then Value.null else .int 0)))] := by
    rw [zWs_new (M := M) (M' := nw M a) rfl hfr hcl hφ (fun x hx => ⟨zr_ne hx, zrL_ne hx, zrR_ne hx⟩), zph_eq, zEn_obj (M := nw M a) hs]
    congr 5
    apply List.map_congr_left
    intro k _
    show (if zIsR ci k = true then va_rf ((zrR M.2.2.1 a (fun _ => none) a k).map _) else Value.int (zr M.1 a (fun _ => 0) a k)) = _
    rw [zrR_row, zr_row]
    rfl
  have kk := h p l e s m args below meth c D cs A ψ φ0 (zph φ a q) H1 locs lsM hF (zAg_new hA hφ ha0 h1000) (by rw [ew]; exact hP1) (by rw [ew]; exact hD1) hS1 ⟨hL.1, hL.2.1, fun i v hi => by rw [rBl_at hφl hls i v hi]; exact hL.2.2 i v hi⟩
  rw [List.map_cons, rB_map hφl hst] at kk
  have e2 : zSt (zph φ a q) (.ref a) = .ref q := by
    show Value.ref (zph φ a q a) = _
    rw [zph_eq]
  rw [e2] at kk
  exact kk
theorem Z_nwI {a n : Nat} {x : Int32} (hs : zS a = (2, n)) (hn : ¬ x < 0) (hxn : x.toNatClampNeg = n) (hbt : n * 4 ≤ 536870912) (hfr : a ∉ M.2.2.2) (ha0 : a ∉ V0) (h1000 : a < 1000) (hcl : zCl M) (hst : rB a st) (hls : rBl a ls) (harr : Cond.arrayClass .int ∈ zG) (hroom : cells + 1 ≤ mc ∧ slots + n ≤ ms) (hd : decode cc pc = .ok (.newarray .int, 2))
    (h : ZW own nm cc nL ret d mc ms V0 (cells + 1) (slots + n) (pc + 2) ls (.ref a :: st) (nw M a) r M') : ZW own nm cc nL ret d mc ms V0 cells slots pc ls (.int x :: st) M r M' := by
  intro p l e s m args below meth c D cs A ψ φ0 φ H locs lsM hF hA hP hD hS hL
  obtain ⟨hx, hb, hr, hml, hown, hlk, hts, hE, hnm⟩ := id hF
  refine va_newa (atype := .int) (ty := .int) (a0 := (n, .inl (fun _ => 0))) hx hb (hts _ harr) rfl hE.1 hP hD hS hE.2.2.1 (fun cA => rfl) hn hxn hbt hroom.1 hroom.2 hd (fun q cA H1 hK1 hP1 hD1 hS1 => ?_)
  have ec : cA = cs 0 := by
    have e1 : s.vm.findClass ("[" ++ (FieldType.int).toString) = some cA := (hK1.2 3 (cA, .int) rfl).2
    have e2 : s.vm.findClass ("[" ++ (FieldType.int).toString) = some (cs 0) := (hE.1.2 0 (cs 0, .int) rfl).2
    exact Option.some.inj (e1.symm.trans e2)
  subst ec
  have hφ : ∀ x, x ≠ a → zph φ a q x = φ x := fun x hx => zph_ne hx
  have hφl : ∀ x, x < a → zph φ a q x = φ x := fun x hx => zph_ne (by omega)
  have ew : zWs cs (zph φ a q) (nw M a) = zWs cs φ M ++ [(q, .inl (cs 0, n, .inl (fun _ => 0)))] := by
    rw [zWs_new (M := M) (M' := nw M a) rfl hfr hcl hφ (fun x hx => ⟨zr_ne hx, zrL_ne hx, zrR_ne hx⟩), zph_eq, zEn_int (M := nw M a) hs]
    show _ ++ [(q, Sum.inl (cs 0, n, Sum.inl (zr M.1 a (fun _ => 0) a)))] = _
    rw [zr_row]
  have kk := h p l e s m args below meth c D cs A ψ φ0 (zph φ a q) H1 locs lsM hF (zAg_new hA hφ ha0 h1000) (by rw [ew]; exact hP1) (by rw [ew]; exact hD1) hS1 ⟨hL.1, hL.2.1, fun i v hi => by rw [rBl_at hφl hls i v hi]; exact hL.2.2 i v hi⟩
  rw [List.map_cons, rB_map hφl hst] at kk
  have e2 : zSt (zph φ a q) (.ref a) = .ref q := by
    show Value.ref (zph φ a q a) = _
    rw [zph_eq]
  rw [e2] at kk
  exact kk
theorem Z_nwL {a n : Nat} {x : Int32} (hs : zS a = (3, n)) (hn : ¬ x < 0) (hxn : x.toNatClampNeg = n) (hbt : n * 8 ≤ 536870912) (hfr : a ∉ M.2.2.2) (ha0 : a ∉ V0) (h1000 : a < 1000) (hcl : zCl M) (hst : rB a st) (hls : rBl a ls) (harr : Cond.arrayClass .long ∈ zG) (hroom : cells + 1 ≤ mc ∧ slots + n ≤ ms) (hd : decode cc pc = .ok (.newarray .long, 2))
    (h : ZW own nm cc nL ret d mc ms V0 (cells + 1) (slots + n) (pc + 2) ls (.ref a :: st) (nw M a) r M') : ZW own nm cc nL ret d mc ms V0 cells slots pc ls (.int x :: st) M r M' := by
  intro p l e s m args below meth c D cs A ψ φ0 φ H locs lsM hF hA hP hD hS hL
  obtain ⟨hx, hb, hr, hml, hown, hlk, hts, hE, hnm⟩ := id hF
  refine va_newa (atype := .long) (ty := .long) (a0 := (n, .inr (.inl (fun _ => 0)))) hx hb (hts _ harr) rfl hE.1 hP hD hS hE.2.2.1 (fun cA => rfl) hn hxn hbt hroom.1 hroom.2 hd (fun q cA H1 hK1 hP1 hD1 hS1 => ?_)
  have ec : cA = cs 1 := by
    have e1 : s.vm.findClass ("[" ++ (FieldType.long).toString) = some cA := (hK1.2 3 (cA, .long) rfl).2
    have e2 : s.vm.findClass ("[" ++ (FieldType.long).toString) = some (cs 1) := (hE.1.2 1 (cs 1, .long) rfl).2
    exact Option.some.inj (e1.symm.trans e2)
  subst ec
  have hφ : ∀ x, x ≠ a → zph φ a q x = φ x := fun x hx => zph_ne hx
  have hφl : ∀ x, x < a → zph φ a q x = φ x := fun x hx => zph_ne (by omega)
  have ew : zWs cs (zph φ a q) (nw M a) = zWs cs φ M ++ [(q, .inl (cs 1, n, .inr (.inl (fun _ => 0))))] := by
    rw [zWs_new (M := M) (M' := nw M a) rfl hfr hcl hφ (fun x hx => ⟨zr_ne hx, zrL_ne hx, zrR_ne hx⟩), zph_eq, zEn_lng (M := nw M a) hs]
    show _ ++ [(q, Sum.inl (cs 1, n, Sum.inr (Sum.inl (zrL M.2.1 a (fun _ => 0) a))))] = _
    rw [zrL_row]
  have kk := h p l e s m args below meth c D cs A ψ φ0 (zph φ a q) H1 locs lsM hF (zAg_new hA hφ ha0 h1000) (by rw [ew]; exact hP1) (by rw [ew]; exact hD1) hS1 ⟨hL.1, hL.2.1, fun i v hi => by rw [rBl_at hφl hls i v hi]; exact hL.2.2 i v hi⟩
  rw [List.map_cons, rB_map hφl hst] at kk
  have e2 : zSt (zph φ a q) (.ref a) = .ref q := by
    show Value.ref (zph φ a q a) = _
    rw [zph_eq]
  rw [e2] at kk
  exact kk
theorem Z_nwQ {a n idx : Nat} {x : Int32} (hs : zS a = (4, n)) (hn : ¬ x < 0) (hxn : x.toNatClampNeg = n) (hbt : n * 4 ≤ 536870912) (hfr : a ∉ M.2.2.2) (ha0 : a ∉ V0) (h1000 : a < 1000) (hcl : zCl M) (hst : rB a st) (hls : rBl a ls) (hlink : Cond.classLink own idx "SackedGlass$Court" ∈ zG) (hroom : cells + 1 ≤ mc ∧ slots + n ≤ ms) (hd : decode cc pc = .ok (.anewarray idx, 3))
    (h : ZW own nm cc nL ret d mc ms V0 (cells + 1) (slots + n) (pc + 3) ls (.ref a :: st) (nw M a) r M') : ZW own nm cc nL ret d mc ms V0 cells slots pc ls (.int x :: st) M r M' := by
  intro p l e s m args below meth c D cs A ψ φ0 φ H locs lsM hF hA hP hD hS hL
  obtain ⟨hx, hb, hr, hml, hown, hlk, hts, hE, hnm⟩ := id hF
  refine va_newq hx hb hown (hts _ hlink) hE.2.2.2.2 hE.1 hP hD hS hE.2.2.1 hn hxn hbt hroom.1 hroom.2 hd (fun q cA H1 hK1 hP1 hD1 hS1 => ?_)
  have ec : cA = cs 2 := by
    obtain ⟨_, _, _, _, _, e1⟩ := (hK1.2 3 (cA, .object "SackedGlass$Court") rfl).2
    obtain ⟨_, _, _, _, _, e2⟩ := (hE.1.2 2 (cs 2, .object "SackedGlass$Court") rfl).2
    exact Option.some.inj (e1.symm.trans e2)
  subst ec
  have hφ : ∀ x, x ≠ a → zph φ a q x = φ x := fun x hx => zph_ne hx
  have hφl : ∀ x, x < a → zph φ a q x = φ x := fun x hx => zph_ne (by omega)
  have ew : zWs cs (zph φ a q) (nw M a) = zWs cs φ M ++ [(q, .inl (cs 2, n, .inr (.inr (.inr (.inr (fun _ => none))))))] := by
    rw [zWs_new (M := M) (M' := nw M a) rfl hfr hcl hφ (fun x hx => ⟨zr_ne hx, zrL_ne hx, zrR_ne hx⟩), zph_eq, zEn_ref (M := nw M a) hs]
    show _ ++ [(q, Sum.inl (cs 2, n, Sum.inr (Sum.inr (Sum.inr (Sum.inr (fun i => (zrR M.2.2.1 a (fun _ => none) a i).map _))))))] = _
    rw [zrR_row]
    rfl
  have kk := h p l e s m args below meth c D cs A ψ φ0 (zph φ a q) H1 locs lsM hF (zAg_new hA hφ ha0 h1000) (by rw [ew]; exact hP1) (by rw [ew]; exact hD1) hS1 ⟨hL.1, hL.2.1, fun i v hi => by rw [rBl_at hφl hls i v hi]; exact hL.2.2 i v hi⟩
  rw [List.map_cons, rB_map hφl hst] at kk
  have e2 : zSt (zph φ a q) (.ref a) = .ref q := by
    show Value.ref (zph φ a q a) = _
    rw [zph_eq]
  rw [e2] at kk
  exact kk
/-- a reference into a field: final, or not -/
theorem Z_ptR {ci k idx a b : Nat} (ha : a ∈ M.2.2.2) (hs : zS a = (1, ci)) (hci : ci < 13) (hk : k < (zcl ci).2.2) (hr0 : zIsR ci k = true) (hfin : ((zcl ci).2.1 k).2.2.2 = false ∨ (((zcl ci).2.1 k).2.2.2 = true ∧ nm = "<init>" ∧ ((zcl ci).2.1 k).1 = own)) (hn : ∀ x, narrow (zty ci k) (.ref x) = .ref x) (hfit : ∀ x, fits (zty ci k) (.ref x) = true) (hl : Cond.fieldLink own idx ((zcl ci).2.1 k).1 ((zcl ci).2.1 k).2.1 ((zcl ci).2.1 k).2.2.1 ∈ zG) (hd : decode cc pc = .ok (.putfield idx, 3))
    (h : ZW own nm cc nL ret d mc ms V0 cells slots (pc + 3) ls st (ptR M a k b) r M') : ZW own nm cc nL ret d mc ms V0 cells slots pc ls (.ref b :: .ref a :: st) M r M' := by
  intro p l e s m args below meth c D cs A ψ φ0 φ H locs lsM hF hA hP hD hS hL
  obtain ⟨hx, hb, hr, hml, hown, hlk, hts, hE, hnm⟩ := id hF
  obtain ⟨k0, h1, h2⟩ := zWs_mem (cs := cs) (φ := φ) ha
  have hset : (zWs cs φ M).set k0 (φ a, .inr (ci, ((List.range (zcl ci).2.2).map (fun k => if zIsR ci k then va_rf ((M.2.2.1 a k).map φ) else .int (M.1 a k))).set k (.ref (φ b)))) = zWs cs φ (ptR M a k b) := by
    rw [← zWs_set (M' := ptR M a k b) hD h1 rfl (fun y hy => by unfold zEn ptR; dsimp only; rw [zuR_ne hy])]
    rw [zEn_obj (M := ptR M a k b) hs]
    congr 4
    refine zset_range ?_ ?_
    · show (if zIsR ci k = true then va_rf ((zuR M.2.2.1 a k (some b) a k).map φ) else _) = _
      rw [if_pos hr0, zuR_row]
      dsimp only
      rw [if_pos rfl]
      rfl
    · intro j hj
      show (if zIsR ci j = true then va_rf ((zuR M.2.2.1 a k (some b) a j).map φ) else Value.int (M.1 a j)) = _
      rw [zuR_row]
      dsimp only
      rw [if_neg hj]
  rw [zEn_obj hs] at h2
  rcases hfin with hfin | ⟨hfin, hi, hdc⟩
  · refine va_put hx hb hts (zin ci hci) (zty ci) (ztyk ci hci) (znmk ci hci) hown hE.1 hP hD hS k0 h2 (zcl_at hci) k hk (hts _ hl) (fun _ h => h) hfin (ztyk ci hci k hk) (hn (φ b)) (hfit (φ b)) (by simpa using hk) hd (fun H1 locs1 hP1 hD1 hS1 => ?_)
    have hP1 : va_P D vwCl (zWs cs φ (ptR M a k b)) H1 := by rw [← hset]; exact hP1
    have hD1 : va_D A (zWs cs φ (ptR M a k b)) := by rw [← hset]; exact hD1
    exact h p l e s m args below meth c D cs A ψ φ0 φ H1 locs1 lsM hF hA hP1 hD1 hS1 hL
  · refine va_putF hx hb hts (zin ci hci) (zty ci) (ztyk ci hci) (znmk ci hci) hown hE.1 hP hD hS k0 h2 (zcl_at hci) k hk (hts _ hl) (fun _ h => h) hfin (hnm.trans hi) hdc (ztyk ci hci k hk) (hn (φ b)) (hfit (φ b)) (by simpa using hk) hd (fun H1 locs1 hP1 hD1 hS1 => ?_)
    have hP1 : va_P D vwCl (zWs cs φ (ptR M a k b)) H1 := by rw [← hset]; exact hP1
    have hD1 : va_D A (zWs cs φ (ptR M a k b)) := by rw [← hset]; exact hD1
    exact h p l e s m args below meth c D cs A ψ φ0 φ H1 locs1 lsM hF hA hP1 hD1 hS1 hL
/-- an int into a final field -/
theorem Z_ptI {ci k idx a : Nat} {x : Int32} (ha : a ∈ M.2.2.2) (hs : zS a = (1, ci)) (hci : ci < 13) (hk : k < (zcl ci).2.2) (hr0 : zIsR ci k = false) (hfin : ((zcl ci).2.1 k).2.2.2 = false ∨ (((zcl ci).2.1 k).2.2.2 = true ∧ nm = "<init>" ∧ ((zcl ci).2.1 k).1 = own)) (hn : narrow (zty ci k) (.int x) = .int x) (hfit : fits (zty ci k) (.int x) = true) (hl : Cond.fieldLink own idx ((zcl ci).2.1 k).1 ((zcl ci).2.1 k).2.1 ((zcl ci).2.1 k).2.2.1 ∈ zG) (hd : decode cc pc = .ok (.putfield idx, 3))
    (h : ZW own nm cc nL ret d mc ms V0 cells slots (pc + 3) ls st (ptI M a k x) r M') : ZW own nm cc nL ret d mc ms V0 cells slots pc ls (.int x :: .ref a :: st) M r M' := by
  rcases hfin with hfin | ⟨hfin, hi, hdc⟩
  · exact Z_putI ha hs hci hk hr0 hfin hn hfit hl hd h
  · intro p l e s m args below meth c D cs A ψ φ0 φ H locs lsM hF hA hP hD hS hL
    obtain ⟨hx, hb, hr, hml, hown, hlk, hts, hE, hnm⟩ := id hF
    obtain ⟨k0, h1, h2⟩ := zWs_mem (cs := cs) (φ := φ) ha
    have hset : (zWs cs φ M).set k0 (φ a, .inr (ci, ((List.range (zcl ci).2.2).map (fun k => if zIsR ci k then va_rf ((M.2.2.1 a k).map φ) else .int (M.1 a k))).set k (.int x))) = zWs cs φ (zu M.1 a k x, M.2) := by
      rw [← zWs_set (M' := (zu M.1 a k x, M.2)) hD h1 rfl (fun y hy => by unfold zEn; dsimp only; rw [zu_ne hy])]
      rw [zEn_obj (M := (zu M.1 a k x, M.2)) hs]
      congr 4
      refine zset_range ?_ ?_
      · simp [hr0, zu_row]
      · intro j hj
        simp [zu_row, hj]
    rw [zEn_obj hs] at h2
    refine va_putF hx hb hts (zin ci hci) (zty ci) (ztyk ci hci) (znmk ci hci) hown hE.1 hP hD hS k0 h2 (zcl_at hci) k hk (hts _ hl) (fun _ h => h) hfin (hnm.trans hi) hdc (ztyk ci hci k hk) hn hfit (by simpa using hk) hd (fun H1 locs1 hP1 hD1 hS1 => ?_)
    have hP1 : va_P D vwCl (zWs cs φ (zu M.1 a k x, M.2)) H1 := by rw [← hset]; exact hP1
    have hD1 : va_D A (zWs cs φ (zu M.1 a k x, M.2)) := by rw [← hset]; exact hD1
    exact h p l e s m args below meth c D cs A ψ φ0 φ H1 locs1 lsM hF hA hP1 hD1 hS1 hL
/-- a court into the row of courts -/
theorem Z_aast {a b n : Nat} {i : Int32} (ha : a ∈ M.2.2.2) (hs : zS a = (4, n)) (hb0 : b ∈ M.2.2.2) (hsb : zS b = (1, 3)) (hin : vp_in i n) (hd : decode cc pc = .ok (.aastore, 1))
    (h : ZW own nm cc nL ret d mc ms V0 cells slots (pc + 1) ls st (ptR M a i.toNatClampNeg b) r M') : ZW own nm cc nL ret d mc ms V0 cells slots pc ls (.ref b :: .int i :: .ref a :: st) M r M' := by
  intro p l e s m args below meth c D cs A ψ φ0 φ H locs lsM hF hA hP hD hS hL
  obtain ⟨hx, hb, hr, hml, hown, hlk, hts, hE, hnm⟩ := id hF
  obtain ⟨k0, h1, h2⟩ := zWs_mem (cs := cs) (φ := φ) ha
  obtain ⟨k1, g1, g2⟩ := zWs_mem (cs := cs) (φ := φ) hb0
  have hset : (zWs cs φ M).set k0 (φ a, .inl (cs 2, n, .inr (.inr (.inr (.inr (va_up (fun i => (M.2.2.1 a i).map φ) i.toNatClampNeg (some (φ b)))))))) = zWs cs φ (ptR M a i.toNatClampNeg b) := by
    rw [← zWs_set (M' := ptR M a i.toNatClampNeg b) hD h1 rfl (fun y hy => by unfold zEn ptR; dsimp only; rw [zuR_ne hy])]
    rw [zEn_ref (M := ptR M a i.toNatClampNeg b) hs]
    congr 9
    funext j
    show va_up _ _ _ j = ((zuR M.2.2.1 a i.toNatClampNeg (some b) a j).map φ)
    rw [zuR_row]
    by_cases e : j = i.toNatClampNeg
    · subst e
      simp [va_up]
    · simp [va_up, e]
  rw [zEn_ref hs] at h2
  rw [zEn_obj hsb] at g2
  refine va_astq hx hb hE.1 hP hD hS k0 2 k1 3 h2 (r := zcl 3) rfl g2 (zcl_at (by omega)) hin hd (fun H1 locs1 hP1 hD1 hS1 => ?_)
  rw [hset] at hP1 hD1
  exact h p l e s m args below meth c D cs A ψ φ0 φ H1 locs1 lsM hF hA hP1 hD1 hS1 hL
/-- the root's constructor -/
theorem Z_obj {idx a : Nat} (hl : Cond.methodLink own idx Lib.objectInit ∈ zG) (hi : Cond.instanceMethod Lib.objectInit ∈ zG) (hc : Cond.code Lib.objectInit ⟨#[0xb1]⟩ 1 none ∈ zG) (hrm : 1 ≤ d) (hd : decode cc pc = .ok (.invokespecial idx, 3))
    (h : ZW own nm cc nL ret d mc ms V0 cells slots (pc + 3) ls [] M r M') : ZW own nm cc nL ret d mc ms V0 cells slots pc ls [.ref a] M r M' := by
  intro p l e s m args below meth c D cs A ψ φ0 φ H locs lsM hF hA hP hD hS hL
  obtain ⟨hx, hb, hr, hml, hown, hlk, hts, hE, hnm⟩ := id hF
  refine W.objInit (g := F0 m pc lsM ([Value.ref a].map (zSt φ))) hx hb hown (hts _ hl) (hts _ hi) (hts _ hc) rfl (by rw [hml]; exact hL.1) rfl hd hrm ?_ ?_
  · show 2 * 0 + 0 + 12 ≤ 64 * d
    omega
  · exact h p l e s m args below meth c D cs A ψ φ0 φ H locs lsM hF hA hP hD hS hL
end ZNEW
