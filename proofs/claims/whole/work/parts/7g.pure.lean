/-! the law's body: the script, the switch, what is made, calls, the end -/
section LAW2
variable {p : Program} {l : Launch} {e : Env} {s : State} {m : MethodId} {below : List Frame} {meth : Method} {c : Code} {D : va_G} {cs : Nat → ClassId} {A : Nat → Prop} {ψ φ0 : Nat → Nat} {b L : Nat} {xs : Nat → Int32} {cells slots pc : Nat} {ls : List (Option Value)} {st : List Value} {M : ZM}
theorem lw_150 (C : lwC p s m meth c D cs A ψ φ0 b L xs) {φ : Nat → Nat} {V : List Nat} (hA : zAg [] V ψ φ0 φ) (hV : 150 ∉ V) : φ 150 = b := (hA.1 150 (Or.inr hV)).trans C.2.2.2.2.2.2.2.2.2.1.2.2
theorem J_len (C : lwC p s m meth c D cs A ψ φ0 b L xs) (hV : 150 ∉ M.2.2.2) (hd : decode code pc = .ok (.arraylength, 1)) (k : LJ p l e s m below meth c D cs A ψ φ0 b cells slots (pc + 1) ls (.int (nI L) :: st) M) : LJ p l e s m below meth c D cs A ψ φ0 b cells slots pc ls (.ref 150 :: st) M := by
  intro φ H locs lsM hA hP hD hS hL
  have q := k φ H locs lsM hA hP hD hS hL
  show W _ _ _ _ _ _ _ _ _ _ _ _ _ _ _ (F0 m pc lsM (.ref (φ 150) :: st.map (zSt φ)))
  rw [lw_150 C hA hV]
  exact va_slen C.1 C.2.1 C.2.2.2.2.2.2.2.2.1 C.2.2.2.2.2.2.2.2.2.1.1 C.2.2.2.2.2.2.2.2.2.1.2.1 hS hd q
theorem J_sld (C : lwC p s m meth c D cs A ψ φ0 b L xs) (hV : 150 ∉ M.2.2.2) {i : Nat} (hi : i < L) (hL3 : L ≤ 3072) (hd : decode code pc = .ok (.iaload, 1)) (k : LJ p l e s m below meth c D cs A ψ φ0 b cells slots (pc + 1) ls (.int (xs i) :: st) M) : LJ p l e s m below meth c D cs A ψ φ0 b cells slots pc ls (.int (nI i) :: .ref 150 :: st) M := by
  intro φ H locs lsM hA hP hD hS hL
  have q := k φ H locs lsM hA hP hD hS hL
  show W _ _ _ _ _ _ _ _ _ _ _ _ _ _ _ (F0 m pc lsM (.int (nI i) :: .ref (φ 150) :: st.map (zSt φ)))
  rw [lw_150 C hA hV]
  have ei : (nI i).toNatClampNeg = i := zx_nI (by omega)
  refine va_sld C.1 C.2.1 C.2.2.2.2.2.2.2.2.1 C.2.2.2.2.2.2.2.2.2.1.1 C.2.2.2.2.2.2.2.2.2.1.2.1 hS (zb_in (by rw [zb_nI (by omega), decide_eq_true hi])) hd ?_
  rw [ei]
  exact q
theorem J_iinc (C : lwC p s m meth c D cs A ψ φ0 b L xs) {i : Nat} {n : Int} {k x : Int32} (hk : Int32.ofInt n = k) (hi : i < 4) (hx : ls[i]? = some (some (Value.int x))) (hp : zpl ls i = true) (hd : decode code pc = .ok (.iinc i n, 3)) (h : LJ p l e s m below meth c D cs A ψ φ0 b cells slots (pc + 3) (ls.set i (some (.int (x + k)))) st M) : LJ p l e s m below meth c D cs A ψ φ0 b cells slots pc ls st M := by
  intro φ H locs lsM hA hP hD hS hL
  obtain ⟨j, hj⟩ := List.getElem?_of_mem (zas_mem (φ := φ) hx)
  exact lv_iinc (k := j) C.1 C.2.1 hd (zLc_has hL) hj (by rw [hk]) hi rfl (fun ls' hl => h φ H locs ls' hA hP hD hS (zLc_st1 (v := .int (x + k)) hp hl))
theorem J_tsw (C : lwC p s m meth c D cs A ψ φ0 b L xs) {dflt lo hi : Int} {offs : Array Int} {len df : Nat} {csl : List (Int32 × Nat)} {x : Int32} (hk : zswOk pc dflt lo hi offs df csl) (hd : decode code pc = .ok (.tableswitch dflt lo hi offs, len)) (k : LJ p l e s m below meth c D cs A ψ φ0 b cells slots (zgo x df csl) ls st M) : LJ p l e s m below meth c D cs A ψ φ0 b cells slots pc ls (.int x :: st) M := by
  intro φ H locs lsM hA hP hD hS hL
  have h2 := k φ H locs lsM hA hP hD hS hL
  by_cases hc : x.toInt < lo ∨ hi < x.toInt
  · rw [(hk.2 x).1 hc] at h2
    exact lv_tableOut C.1 C.2.1 hd hc hk.1 h2
  · obtain ⟨off, o1, o2⟩ := (hk.2 x).2 (fun h => hc (Or.inl h)) (fun h => hc (Or.inr h))
    exact lv_tableIn C.1 C.2.1 hd (fun h => hc (Or.inl h)) (fun h => hc (Or.inr h)) o1 o2 h2
set_option maxRecDepth 20000 in
theorem J_new (C : lwC p s m meth c D cs A ψ φ0 b L xs) {ci idx a : Nat} (hs : zS a = (1, ci)) (hci : ci < 13) (hfr : a ∉ M.2.2.2) (h1000 : a < 1000) (hcl : zCl M) (hst : rB a st) (hls : ∀ (i : Nat) (v : Value), ls[i]? = some (some v) → ¬ v = Value.ref a) (hlink : Cond.classLink R_law idx (zcl ci).1 ∈ zG) (hinst : Cond.instantiable (zcl ci).1 (zcl ci).2.2 ∈ zG) (hini : Cond.initialized (zcl ci).1 ∈ zG) (hroom : cells + 1 ≤ room_1.cells ∧ slots + (zcl ci).2.2 ≤ room_1.slots) (hd : decode code pc = .ok (.new idx, 3))
    (h : LJ p l e s m below meth c D cs A ψ φ0 b (cells + 1) (slots + (zcl ci).2.2) (pc + 3) ls (.ref a :: st) (nw M a)) : LJ p l e s m below meth c D cs A ψ φ0 b cells slots pc ls st M := by
  intro φ H locs lsM hA hP hD hS hL
  obtain ⟨hx, hb, hr, hml, hown, hlk, hts, hE, _⟩ := id C
  refine va_new hx hb hts (zin ci hci) (zty ci) (ztyk ci hci) hown (hts _ hlink) (hts _ hinst) (hts _ hini) hE.1 hP hD hS hE.2.2.1 (zcl_at hci) (zdef ci hci) hroom.1 hroom.2 hd (fun q H1 hP1 hD1 hS1 => ?_)
  have hφ : ∀ x, x ≠ a → zph φ a q x = φ x := fun x hx => zph_ne hx
  have hφl : ∀ x, x < a → zph φ a q x = φ x := fun x hx => zph_ne (by omega)
  have ew : zWs cs (zph φ a q) (nw M a) = zWs cs φ M ++ [(q, .inr (ci, (List.range (zcl ci).2.2).map (fun k => if zIsR ci k then Value.null else .int 0)))] := by
    rw [zWs_new (M := M) (M' := nw M a) rfl hfr hcl hφ (fun x hx => ⟨zr_ne hx, zrL_ne hx, zrR_ne hx⟩), zph_eq, zEn_obj (M := nw M a) hs]
    congr 5
    apply List.map_congr_left
    intro k _
    show (if zIsR ci k = true then va_rf ((zrR M.2.2.1 a (fun _ => none) a k).map _) else Value.int (zr M.1 a (fun _ => 0) a k)) = _
    rw [zrR_row, zr_row]
    rfl
  have kk := h (zph φ a q) H1 locs lsM (zAg_new hA hφ List.not_mem_nil h1000) (by rw [ew]; exact hP1) (by rw [ew]; exact hD1) hS1 ⟨hL.1, hL.2.1, fun i v hi => by
    have e : zSt (zph φ a q) v = zSt φ v := by
      cases v with
      | ref x =>
        have hxa : x ≠ a := fun e => hls i _ hi (by rw [e])
        show Value.ref (zph φ a q x) = Value.ref (φ x)
        rw [hφ x hxa]
      | _ => rfl
    rw [e]
    exact hL.2.2 i v hi⟩
  rw [List.map_cons, rB_map hφl hst] at kk
  have e2 : zSt (zph φ a q) (.ref a) = .ref q := by
    show Value.ref (zph φ a q a) = _
    rw [zph_eq]
  rw [e2] at kk
  exact kk
/-- all that refers lives, or never will -/
def rA (V V1 : List Nat) (v : Value) : Prop := ∀ x, v = .ref x → x ∈ V ∨ x ∉ V1
theorem J_aft {M1 : ZM} {r1 : Option Value} {a : Array Value} {mc' ms' : Nat} {st0 : List Value} {φ : Nat → Nat} {H : Heap} {locs : List Loc} {lsM : Array Slot}
    (hr : va_Run p l e room_1 s m #[Value.ref b] below meth c H locs cells slots mc' ms' (F0 m pc lsM st0) (st.map (zSt φ)) (zQc D cs A ψ φ M.2.2.2 r1 M1 a) A) (hA : zAg [] M.2.2.2 ψ φ0 φ) (hsub : ∀ x ∈ M.2.2.2, x ∈ M1.2.2.2) (hst : ∀ v ∈ st, rA M.2.2.2 M1.2.2.2 v) (hls : ∀ (i : Nat) (v : Value), ls[i]? = some (some v) → rA M.2.2.2 M1.2.2.2 v) (hS : va_S A s.heap H locs) (hL : zLc lsM 4 φ ls)
    (kk : LJ p l e s m below meth c D cs A ψ φ0 b (cells + mc') (slots + ms') (pc + 3) ls (r1.toList ++ st) M1) :
    W p l e room_1 s m #[Value.ref b] below meth c H locs cells slots (lw_Z below #[Value.ref b] s) (F0 m pc lsM st0) := by
  intro T hT X
  obtain ⟨v, st₀, t, T', Lc, h0, X', hL2, e1, e2, ⟨φ', hag, hv, hP1, hD1, hz, hk⟩, stp⟩ := hr T hT X
  cases hv
  rw [h0] at hz hk
  have hv : ∀ v, rA M.2.2.2 M1.2.2.2 v → zSt φ' v = zSt φ v := by
    intro v hv
    cases v with
    | ref x =>
      show Value.ref (φ' x) = Value.ref (φ x)
      rw [hag.1 x (hv x rfl)]
    | _ => rfl
  have hA' : zAg [] M1.2.2.2 ψ φ0 φ' := by
    refine ⟨fun x hx => ?_, hag.2⟩
    rcases hx with h | h
    · cases h
    · rw [hag.1 x (Or.inr h)]
      exact hA.1 x (Or.inr (fun c => h (hsub x c)))
  have est : st.map (zSt φ') = st.map (zSt φ) := List.map_congr_left (fun v hv' => hv v (hst v hv'))
  obtain ⟨t2, a1, b1⟩ := kk φ' T'.heap (locs ++ Lc) lsM hA' (by rw [e1]; exact hP1) hD1 ⟨Nat.le_trans hS.1 (by rw [e1]; exact hz), fun q h1 h2 => by
      rw [e1, hk q (Nat.lt_of_lt_of_le h1 hS.1) h2]
      exact hS.2.1 q h1 h2, fun q hq => by
      rcases List.mem_append.mp hq with h | h
      · exact hS.2.2 q h
      · exact hL2 q h⟩ ⟨hL.1, hL.2.1, fun i v hi => by rw [hv v (hls i v hi)]; exact hL.2.2 i v hi⟩ T' rfl X'
  refine ⟨t2, stp t2 ?_, b1⟩
  rw [List.map_append, est] at a1
  have e3 : (r1.map (zSt φ')).toList = r1.toList.map (zSt φ') := by cases r1 <;> rfl
  rw [e3]
  exact a1
theorem J_callC (C : lwC p s m meth c D cs A ψ φ0 b L xs) {y : MethodName} {cc' : ByteArray} {nL' d' idx a mc' ms' : Nat} {M1 : ZM} (hM : zMt y cc' nL' none d' mc' ms' [.ref a] M none M1) (hsub : ∀ x ∈ M.2.2.2, x ∈ M1.2.2.2) (hst : ∀ v ∈ st, rA M.2.2.2 M1.2.2.2 v) (hls : ∀ (i : Nat) (v : Value), ls[i]? = some (some v) → rA M.2.2.2 M1.2.2.2 v) (hw : zMI y cc' nL' 0) (hl : zMl R_law idx y) (hroom : d' + 1 ≤ 2048 ∧ 8 + (nL' + 11) + 64 * d' ≤ 84000) (hst8 : zrm st = true) (hmc : cells + mc' ≤ room_1.cells ∧ slots + ms' ≤ room_1.slots) (hd : decode code pc = .ok (.invokespecial idx, 3))
    (h : LJ p l e s m below meth c D cs A ψ φ0 b (cells + mc') (slots + ms') (pc + 3) ls st M1) : LJ p l e s m below meth c D cs A ψ φ0 b cells slots pc ls (.ref a :: st) M := by
  intro φ H locs lsM hA hP hD hS hL
  obtain ⟨hx, hb, hr, hml, hown, hlk, hts, hE, _⟩ := id C
  obtain ⟨w1, w3, w4, w5, w6, w7, w8⟩ := hw
  exact J_aft (M := M) (M1 := M1) (r1 := none) (va_runI (As := []) (rest := st.map (zSt φ)) (b := φ a) ⟨hx, hb, hml, hown, hts⟩ (hM l D cs A ψ φ) ⟨callB_of 0 hts (zWd_good w4) rfl rfl rfl (hts _ w3) (hts _ hl) ⟨w5, w6, w7⟩ hroom, w8, hts _ w1⟩ ⟨zPc_blind, fun U hU hW => zPre_of (as := [.ref a]) hE hA.2 hP hD hS U hU hW⟩ rfl rfl hL.1 rfl (lv_room (zcatR hst8)) hd hmc) hA hsub hst hls hS hL h
theorem J_callG (C : lwC p s m meth c D cs A ψ φ0 b L xs) {y : MethodName} {cc' : ByteArray} {nL' : Nat} {ret' : Option FieldType} {d' n idx o ci mc' ms' : Nat} {as : List Value} {M1 : ZM} {r1 : Option Value} (hM : zMt y cc' nL' ret' d' mc' ms' (.ref o :: as) M r1 M1) (hsub : ∀ x ∈ M.2.2.2, x ∈ M1.2.2.2) (hst : ∀ v ∈ st, rA M.2.2.2 M1.2.2.2 v) (hls : ∀ (i : Nat) (v : Value), ls[i]? = some (some v) → rA M.2.2.2 M1.2.2.2 v) (hb0 : o ∈ M.2.2.2) (hs : zS o = (1, ci)) (hci : ci < 13) (hy : (zcl ci).1 = y.cls) (hw : zMV y cc' nL' ret' n) (hl : zMl R_law idx y) (hn : as.length = n) (hroom : d' + 1 ≤ 2048 ∧ 8 + (nL' + 11) + 64 * d' ≤ 84000) (hst8 : zrm st = true) (hmc : cells + mc' ≤ room_1.cells ∧ slots + ms' ≤ room_1.slots) (hd : decode code pc = .ok (.invokevirtual idx, 3))
    (h : LJ p l e s m below meth c D cs A ψ φ0 b (cells + mc') (slots + ms') (pc + 3) ls (r1.toList ++ st) M1) : LJ p l e s m below meth c D cs A ψ φ0 b cells slots pc ls (as.reverse ++ .ref o :: st) M := by
  intro φ H locs lsM hA hP hD hS hL
  obtain ⟨hx, hb, hr, hml, hown, hlk, hts, hE, _⟩ := id C
  obtain ⟨k0, h1, h2⟩ := zWs_mem (cs := cs) (φ := φ) hb0
  rw [zEn_obj hs] at h2
  obtain ⟨w1, w2, w3, w4, w5, w6, w7⟩ := hw
  have hG : GoodIn zG (wsV R_law idx y.cls y (zWd y cc' nL' ret')) := fun w hw => by
    unfold wsV at hw
    simp only [List.mem_append, List.mem_cons, List.not_mem_nil, or_false] at hw
    rcases hw with (rfl | rfl | rfl | rfl) | hw
    · exact zG_GoodIn _ hl
    · exact zG_GoodIn _ w1
    · exact zG_GoodIn _ w2
    · exact zG_GoodIn _ w3
    · exact zWd_good w4 w hw
  have hrec := va_recv hE.1 hP (zcl_at hci) h2
  rw [hy] at hrec
  refine J_aft (M := M) (M1 := M1) (r1 := r1) (va_runV (As := as.map (zSt φ)) (rest := st.map (zSt φ)) (b := φ o) ⟨hx, hb, hml, hown, hts⟩ (hM l D cs A ψ φ) (cwV n hts hG rfl rfl rfl ⟨rfl, w5, w6, w7⟩ hroom) ⟨zPc_blind, hrec, fun U hU hW => zPre_of (as := .ref o :: as) hE hA.2 hP hD hS U hU hW⟩ rfl (by rw [List.length_map]; exact hn) hL.1 ?_ (lv_room (zcatR hst8)) hd hmc) hA hsub hst hls hS hL h
  show (as.reverse ++ .ref o :: st).map (zSt φ) = _
  rw [List.map_append, List.map_reverse, List.map_cons]
  rfl
/-- the law's own end -/
theorem J_ret (C : lwC p s m meth c D cs A ψ φ0 b L xs) (hc : cells ≤ room_1.cells) (hs : slots ≤ room_1.slots) (hd : decode code pc = .ok (.ireturn, 1)) : LJ p l e s m below meth c D cs A ψ φ0 b cells slots pc ls [.int 1] M := by
  intro φ H locs lsM hA hP hD hS hL
  refine va_forget (fun q hq => C.2.2.2.2.2.2.2.2.2.2 _ (hS.2.2 q hq)) ?_
  exact W.widen (k := room_1.cells) (n := room_1.slots) hc hs (lw_ret C.1 C.2.1 C.2.2.1 C.2.2.2.2.2.1 hd)
end LAW2
