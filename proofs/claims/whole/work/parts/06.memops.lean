/-! THE INSTRUCTIONS ON THE MEMORY -/
theorem zcl_at {ci : Nat} (h : ci < 13) : vwCl[ci]? = some (zcl ci) := by
  have h2 : vwCl[ci]? = some vwCl[ci] := List.getElem?_eq_getElem h
  unfold zcl
  rw [List.getD_eq_getElem?_getD, h2]; rfl
set_option maxRecDepth 20000 in
theorem zin : ∀ ci, ci < 13 → ∀ w ∈ u_ws (zcl ci).1 (zcl ci).2.1 (zcl ci).2.2, w ∈ zG := by decide +kernel
set_option maxRecDepth 20000 in
theorem ztyk : ∀ ci, ci < 13 → ∀ k, k < (zcl ci).2.2 → parseFieldDescriptor ((zcl ci).2.1 k).2.2.1 = some (zty ci k) := by decide +kernel
set_option maxRecDepth 20000 in
theorem znmk : ∀ ci, ci < 13 → ∀ a, a < (zcl ci).2.2 → ∀ b, b < (zcl ci).2.2 → a ≠ b → ((zcl ci).2.1 a).2.1 ≠ ((zcl ci).2.1 b).2.1 := by decide +kernel
/-- the link of a field: of the method's own constants, number idx -/
def zLk (own : String) (idx ci k : Nat) : Prop := Cond.fieldLink own idx ((zcl ci).2.1 k).1 ((zcl ci).2.1 k).2.1 ((zcl ci).2.1 k).2.2.1 ∈ zG ∨ ∃ host, Cond.fieldLinkNest own idx ((zcl ci).2.1 k).1 ((zcl ci).2.1 k).2.1 ((zcl ci).2.1 k).2.2.1 host ∈ zNs
def zRv (o : Option Nat) : Value := match o with
  | some b => .ref b
  | none => .null
theorem zRv_rf (φ : Nat → Nat) (o : Option Nat) : va_rf (o.map φ) = zSt φ (zRv o) := by cases o <;> rfl
def zb (i : Int32) (n : Nat) : Bool := !decide (i < 0) && Nat.blt i.toNatClampNeg n
def zx (i : Int32) : Nat := i.toNatClampNeg
theorem zb_in {i : Int32} {n : Nat} (h : zb i n = true) : vp_in i n := by
  unfold zb at h
  simp only [Bool.and_eq_true, Bool.not_eq_true', decide_eq_false_iff_not, Nat.blt_eq] at h
  intro hc
  rcases hc with hc | hc
  · exact h.1 hc
  · omega
section ZG
variable {own nm : String} {cc : ByteArray} {nL : Nat} {ret : Option FieldType} {d mc ms : Nat} {V0 : List Nat} {cells slots : Nat} {pc : Nat} {ls : List (Option Value)} {st : List Value} {M : ZM} {r : Option Value} {M' : ZM}
theorem zEn_obj {cs : Nat → ClassId} {φ : Nat → Nat} {M : ZM} {a ci : Nat} (hs : zS a = (1, ci)) : zEn cs φ M a = .inr (ci, (List.range (zcl ci).2.2).map (fun k => if zIsR ci k then va_rf ((M.2.2.1 a k).map φ) else .int (M.1 a k))) := by
  unfold zEn; rw [hs]; rfl
theorem zEn_int {cs : Nat → ClassId} {φ : Nat → Nat} {M : ZM} {a n : Nat} (hs : zS a = (2, n)) : zEn cs φ M a = .inl (cs 0, n, .inl (M.1 a)) := by
  unfold zEn; rw [hs]; rfl
theorem zEn_lng {cs : Nat → ClassId} {φ : Nat → Nat} {M : ZM} {a n : Nat} (hs : zS a = (3, n)) : zEn cs φ M a = .inl (cs 1, n, .inr (.inl (M.2.1 a))) := by
  unfold zEn; rw [hs]; rfl
theorem zEn_ref {cs : Nat → ClassId} {φ : Nat → Nat} {M : ZM} {a n : Nat} (hs : zS a = (4, n)) : zEn cs φ M a = .inl (cs 2, n, .inr (.inr (.inr (.inr (fun i => (M.2.2.1 a i).map φ))))) := by
  unfold zEn; rw [hs]; rfl
theorem Z_get {ci k idx a : Nat} (ha : a ∈ M.2.2.2) (hs : zS a = (1, ci)) (hci : ci < 13) (hk : k < (zcl ci).2.2) (hl : zLk own idx ci k) (hd : decode cc pc = .ok (.getfield idx, 3))
    (h : ZW own nm cc nL ret d mc ms V0 cells slots (pc + 3) ls ((if zIsR ci k then zRv (M.2.2.1 a k) else .int (M.1 a k)) :: st) M r M') : ZW own nm cc nL ret d mc ms V0 cells slots pc ls (.ref a :: st) M r M' := by
  intro p l e s m args below meth c D cs A ψ φ0 φ H locs lsM hF hA hP hD hS hL
  have h' := h p l e s m args below meth c D cs A ψ φ0 φ H locs lsM hF hA hP hD hS hL
  obtain ⟨hx, hb, hr, hml, hown, hlk, hts, hE, hnm⟩ := hF
  obtain ⟨k0, h1, h2⟩ := zWs_mem (cs := cs) (φ := φ) ha
  rw [zEn_obj hs] at h2
  have hv : ((List.range (zcl ci).2.2).map (fun k => if zIsR ci k then va_rf ((M.2.2.1 a k).map φ) else .int (M.1 a k)))[k]? = some (zSt φ (if zIsR ci k then zRv (M.2.2.1 a k) else .int (M.1 a k))) := by
    rw [List.getElem?_map, List.getElem?_range hk]
    simp only [Option.map_some, zRv_rf]
    cases zIsR ci k <;> rfl
  rcases hl with hl | ⟨host, hl⟩
  · exact va_get hx hb hts (zin ci hci) hown hE.1 hP k0 h2 (zcl_at hci) k hk (hts _ hl) (fun _ h => h) hv hd h'
  · exact va_getN hx hb hts (zin ci hci) hown hE.1 hP k0 h2 (zcl_at hci) k hk (va_Nw.use rfl (hE.2.1 _ hl)) (fun _ h => h) hv hd h'
theorem zset_range {N k : Nat} {g g' : Nat → Value} {v : Value} (h1 : g' k = v) (h2 : ∀ j, j ≠ k → g' j = g j) : ((List.range N).map g).set k v = (List.range N).map g' := by
  apply List.ext_getElem?
  intro i
  rw [List.getElem?_set]
  by_cases hi : k = i
  · subst hi
    rw [if_pos rfl]
    by_cases hk : k < N
    · rw [if_pos (by simpa using hk), List.getElem?_map, List.getElem?_range hk]
      simp [h1]
    · rw [if_neg (by simpa using hk), List.getElem?_eq_none (by simpa using hk)]
  · rw [if_neg hi, List.getElem?_map, List.getElem?_map]
    by_cases hk : i < N
    · rw [List.getElem?_range hk]
      simp [h2 i (fun e => hi e.symm)]
    · rw [List.getElem?_eq_none (by simpa using hk)]
      rfl
theorem Z_putI {ci k idx a : Nat} {x : Int32} (ha : a ∈ M.2.2.2) (hs : zS a = (1, ci)) (hci : ci < 13) (hk : k < (zcl ci).2.2) (hr0 : zIsR ci k = false) (hfin : ((zcl ci).2.1 k).2.2.2 = false) (hn : narrow (zty ci k) (.int x) = .int x) (hfit : fits (zty ci k) (.int x) = true) (hl : Cond.fieldLink own idx ((zcl ci).2.1 k).1 ((zcl ci).2.1 k).2.1 ((zcl ci).2.1 k).2.2.1 ∈ zG) (hd : decode cc pc = .ok (.putfield idx, 3))
    (h : ZW own nm cc nL ret d mc ms V0 cells slots (pc + 3) ls st (zu M.1 a k x, M.2) r M') : ZW own nm cc nL ret d mc ms V0 cells slots pc ls (.int x :: .ref a :: st) M r M' := by
  intro p l e s m args below meth c D cs A ψ φ0 φ H locs lsM hF hA hP hD hS hL
  obtain ⟨hx, hb, hr, hml, hown, hlk, hts, hE, hnm⟩ := id hF
  obtain ⟨k0, h1, h2⟩ := zWs_mem (cs := cs) (φ := φ) ha
  have hset : (zWs cs φ M).set k0 (φ a, .inr (ci, ((List.range (zcl ci).2.2).map (fun k => if zIsR ci k then va_rf ((M.2.2.1 a k).map φ) else .int (M.1 a k))).set k (.int x))) = zWs cs φ (zu M.1 a k x, M.2) := by
    rw [← zWs_set (M' := (zu M.1 a k x, M.2)) hD h1 rfl (fun y hy => by unfold zEn; dsimp only; rw [zu_ne hy])]
    rw [zEn_obj (M := (zu M.1 a k x, M.2)) hs]
    congr 4
    refine zset_range ?_ ?_
    · simp [hr0, zu_row]
    · intro j hj
      simp [zu_row, hj]
  rw [zEn_obj hs] at h2
  refine va_put hx hb hts (zin ci hci) (zty ci) (ztyk ci hci) (znmk ci hci) hown hE.1 hP hD hS k0 h2 (zcl_at hci) k hk (hts _ hl) (fun _ h => h) hfin (ztyk ci hci k hk) hn hfit (by simpa using hk) hd (fun H1 locs1 hP1 hD1 hS1 => ?_)
  have hP1 : va_P D vwCl (zWs cs φ (zu M.1 a k x, M.2)) H1 := by rw [← hset]; exact hP1
  have hD1 : va_D A (zWs cs φ (zu M.1 a k x, M.2)) := by rw [← hset]; exact hD1
  exact h p l e s m args below meth c D cs A ψ φ0 φ H1 locs1 lsM hF hA hP1 hD1 hS1 hL
theorem Z_iald {a n : Nat} {i : Int32} (ha : a ∈ M.2.2.2) (hs : zS a = (2, n)) (hin : vp_in i n) (hd : decode cc pc = .ok (.iaload, 1))
    (h : ZW own nm cc nL ret d mc ms V0 cells slots (pc + 1) ls (.int (M.1 a i.toNatClampNeg) :: st) M r M') : ZW own nm cc nL ret d mc ms V0 cells slots pc ls (.int i :: .ref a :: st) M r M' := by
  intro p l e s m args below meth c D cs A ψ φ0 φ H locs lsM hF hA hP hD hS hL
  have h' := h p l e s m args below meth c D cs A ψ φ0 φ H locs lsM hF hA hP hD hS hL
  obtain ⟨hx, hb, hr, hml, hown, hlk, hts, hE, hnm⟩ := hF
  obtain ⟨k0, h1, h2⟩ := zWs_mem (cs := cs) (φ := φ) ha
  rw [zEn_int hs] at h2
  exact va_iald hx hb hE.1 hP k0 0 h2 rfl hin hd h'
theorem Z_iast {a n : Nat} {i x : Int32} (ha : a ∈ M.2.2.2) (hs : zS a = (2, n)) (hin : vp_in i n) (hd : decode cc pc = .ok (.iastore, 1))
    (h : ZW own nm cc nL ret d mc ms V0 cells slots (pc + 1) ls st (zu M.1 a i.toNatClampNeg x, M.2) r M') : ZW own nm cc nL ret d mc ms V0 cells slots pc ls (.int x :: .int i :: .ref a :: st) M r M' := by
  intro p l e s m args below meth c D cs A ψ φ0 φ H locs lsM hF hA hP hD hS hL
  obtain ⟨hx, hb, hr, hml, hown, hlk, hts, hE, hnm⟩ := id hF
  obtain ⟨k0, h1, h2⟩ := zWs_mem (cs := cs) (φ := φ) ha
  have hset : (zWs cs φ M).set k0 (φ a, .inl (cs 0, n, .inl (upd (M.1 a) i.toNatClampNeg x))) = zWs cs φ (zu M.1 a i.toNatClampNeg x, M.2) := by
    rw [← zWs_set (M' := (zu M.1 a i.toNatClampNeg x, M.2)) hD h1 rfl (fun y hy => by unfold zEn; dsimp only; rw [zu_ne hy])]
    rw [zEn_int (M := (zu M.1 a i.toNatClampNeg x, M.2)) hs]
    dsimp only
    rw [zu_row]
    rfl
  rw [zEn_int hs] at h2
  refine va_iast hx hb hE.1 hP hD hS k0 0 h2 rfl hin hd (fun H1 locs1 hP1 hD1 hS1 => ?_)
  rw [hset] at hP1 hD1
  exact h p l e s m args below meth c D cs A ψ φ0 φ H1 locs1 lsM hF hA hP1 hD1 hS1 hL
theorem Z_lald {a n : Nat} {i : Int32} (ha : a ∈ M.2.2.2) (hs : zS a = (3, n)) (hin : vp_in i n) (hd : decode cc pc = .ok (.laload, 1))
    (h : ZW own nm cc nL ret d mc ms V0 cells slots (pc + 1) ls (.long (M.2.1 a i.toNatClampNeg) :: st) M r M') : ZW own nm cc nL ret d mc ms V0 cells slots pc ls (.int i :: .ref a :: st) M r M' := by
  intro p l e s m args below meth c D cs A ψ φ0 φ H locs lsM hF hA hP hD hS hL
  have h' := h p l e s m args below meth c D cs A ψ φ0 φ H locs lsM hF hA hP hD hS hL
  obtain ⟨hx, hb, hr, hml, hown, hlk, hts, hE, hnm⟩ := hF
  obtain ⟨k0, h1, h2⟩ := zWs_mem (cs := cs) (φ := φ) ha
  rw [zEn_lng hs] at h2
  exact va_lald hx hb hE.1 hP k0 1 h2 rfl hin hd h'
theorem Z_last {a n : Nat} {i : Int32} {x : Int64} (ha : a ∈ M.2.2.2) (hs : zS a = (3, n)) (hin : vp_in i n) (hd : decode cc pc = .ok (.lastore, 1))
    (h : ZW own nm cc nL ret d mc ms V0 cells slots (pc + 1) ls st (M.1, zuL M.2.1 a i.toNatClampNeg x, M.2.2) r M') : ZW own nm cc nL ret d mc ms V0 cells slots pc ls (.long x :: .int i :: .ref a :: st) M r M' := by
  intro p l e s m args below meth c D cs A ψ φ0 φ H locs lsM hF hA hP hD hS hL
  obtain ⟨hx, hb, hr, hml, hown, hlk, hts, hE, hnm⟩ := id hF
  obtain ⟨k0, h1, h2⟩ := zWs_mem (cs := cs) (φ := φ) ha
  have hset : (zWs cs φ M).set k0 (φ a, .inl (cs 1, n, .inr (.inl (vp_updL (M.2.1 a) i.toNatClampNeg x)))) = zWs cs φ (M.1, zuL M.2.1 a i.toNatClampNeg x, M.2.2) := by
    rw [← zWs_set (M' := (M.1, zuL M.2.1 a i.toNatClampNeg x, M.2.2)) hD h1 rfl (fun y hy => by unfold zEn; dsimp only; rw [zuL_ne hy])]
    rw [zEn_lng (M := (M.1, zuL M.2.1 a i.toNatClampNeg x, M.2.2)) hs]
    dsimp only
    rw [zuL_row]
    rfl
  rw [zEn_lng hs] at h2
  refine va_last hx hb hE.1 hP hD hS k0 1 h2 rfl hin hd (fun H1 locs1 hP1 hD1 hS1 => ?_)
  rw [hset] at hP1 hD1
  exact h p l e s m args below meth c D cs A ψ φ0 φ H1 locs1 lsM hF hA hP1 hD1 hS1 hL
theorem Z_aald {a n : Nat} {i : Int32} (ha : a ∈ M.2.2.2) (hs : zS a = (4, n)) (hin : vp_in i n) (hd : decode cc pc = .ok (.aaload, 1))
    (h : ZW own nm cc nL ret d mc ms V0 cells slots (pc + 1) ls (zRv (M.2.2.1 a i.toNatClampNeg) :: st) M r M') : ZW own nm cc nL ret d mc ms V0 cells slots pc ls (.int i :: .ref a :: st) M r M' := by
  intro p l e s m args below meth c D cs A ψ φ0 φ H locs lsM hF hA hP hD hS hL
  have h' := h p l e s m args below meth c D cs A ψ φ0 φ H locs lsM hF hA hP hD hS hL
  obtain ⟨hx, hb, hr, hml, hown, hlk, hts, hE, hnm⟩ := hF
  obtain ⟨k0, h1, h2⟩ := zWs_mem (cs := cs) (φ := φ) ha
  rw [zEn_ref hs] at h2
  rw [List.map_cons, ← zRv_rf] at h'
  exact va_aldq hx hb hE.1 hP k0 2 h2 rfl hin hd h'
/-- System.arraycopy from place 0 to place 0 -/
theorem Z_copy {a b na nb idx : Nat} {n : Int32} (ha : a ∈ M.2.2.2) (hb0 : b ∈ M.2.2.2) (hsa : zS a = (2, na)) (hsb : zS b = (2, nb)) (hn : ¬ n < 0) (h4 : n.toNatClampNeg ≤ na) (h5 : n.toNatClampNeg ≤ nb) (hl : Cond.methodLink own idx arraycopyName ∈ zG) (hnat : Cond.native arraycopyName ∈ zG) (hstat : Cond.static arraycopyName ∈ zG) (hini : Cond.initialized "java/lang/System" ∈ zG) (hrm : 1 ≤ d) (hrl : (st.map fun v => v.category).sum + (nativeFrameWords "java/lang/System" "arraycopy" 5 + 11) ≤ 64 * d) (hd : decode cc pc = .ok (.invokestatic idx, 3))
    (h : ZW own nm cc nL ret d mc ms V0 cells slots (pc + 3) ls st (zr M.1 b (fun k => if k < n.toNatClampNeg then M.1 a k else M.1 b k), M.2) r M') : ZW own nm cc nL ret d mc ms V0 cells slots pc ls (.int n :: .int 0 :: .ref b :: .int 0 :: .ref a :: st) M r M' := by
  intro p l e s m args below meth c D cs A ψ φ0 φ H locs lsM hF hA hP hD hS hL
  obtain ⟨hx, hb, hr, hml, hown, hlk, hts, hE, hnm⟩ := id hF
  obtain ⟨k0, h1, h2⟩ := zWs_mem (cs := cs) (φ := φ) ha
  obtain ⟨k1, g1, g2⟩ := zWs_mem (cs := cs) (φ := φ) hb0
  have hset : (zWs cs φ M).set k1 (φ b, .inl (cs 0, nb, .inl (va_cpy (M.1 a) (M.1 b) (0 : Int32).toNatClampNeg (0 : Int32).toNatClampNeg n.toNatClampNeg))) = zWs cs φ (zr M.1 b (fun k => if k < n.toNatClampNeg then M.1 a k else M.1 b k), M.2) := by
    rw [← zWs_set (M' := (zr M.1 b (fun k => if k < n.toNatClampNeg then M.1 a k else M.1 b k), M.2)) hD g1 rfl (fun y hy => by unfold zEn; dsimp only; rw [zr_ne hy])]
    rw [zEn_int (M := (zr M.1 b (fun k => if k < n.toNatClampNeg then M.1 a k else M.1 b k), M.2)) hsb]
    dsimp only
    rw [zr_row]
    congr 6
    funext k
    have z0 : (0 : Int32).toNatClampNeg = 0 := by decide
    simp [va_cpy, z0]
  rw [zEn_int hsa] at h2
  rw [zEn_int hsb] at g2
  have z0 : (0 : Int32).toNatClampNeg = 0 := by decide
  refine va_copyi hx hb (by rw [hml]; exact hL.1.symm) hown (hts _ hl) (hts _ hnat) (hts _ hstat) (hts _ hini) hE.1 hP hD hS k0 k1 0 0 h2 g2 rfl rfl rfl (by decide) (by decide) hn (by rw [z0]; omega) (by rw [z0]; omega) (fun i hi => rfl) hrm (by
    have e : ((st.map (zSt φ)).map fun v => v.category) = st.map fun v => v.category := by
      rw [List.map_map]
      exact List.map_congr_left (fun v _ => zSt_cat φ v)
    rw [e]
    exact hrl) hd (fun H1 locs1 hP1 hD1 hS1 => ?_)
  rw [hset] at hP1 hD1
  exact h p l e s m args below meth c D cs A ψ φ0 φ H1 locs1 lsM hF hA hP1 hD1 hS1 hL
end ZG
