/-! THE PURE MEMORY: logical addresses; ints, longs, references; what lives. A logical address has one shape for ever: (1, c) an object of class c of vwCl, (2, n) int[n], (3, n) long[n], (4, n) Court[n] -/
abbrev zI : Type := Nat → Nat → Int32
abbrev zL : Type := Nat → Nat → Int64
abbrev zRt : Type := Nat → Nat → Option Nat
abbrev ZM : Type := zI × zL × zRt × List Nat
def zSl : List (Nat × Nat) := [(1, 11), (1, 9), (2, 400), (2, 401), (2, 401), (2, 401), (1, 10), (1, 3), (2, 70), (1, 4), (2, 16), (2, 16), (2, 16), (2, 16), (2, 400), (2, 32), (2, 9), (1, 7), (2, 12), (2, 12), (1, 0), (2, 16), (2, 16), (2, 16), (2, 16), (1, 1), (2, 600), (1, 5), (2, 96), (2, 960), (2, 5), (2, 5), (1, 6), (2, 12), (2, 20), (2, 20), (2, 6), (2, 6), (2, 4), (3, 5), (1, 3), (2, 70), (1, 8), (4, 6), (1, 3), (2, 70), (1, 3), (2, 70), (1, 3), (2, 70), (1, 3), (2, 70), (1, 3), (2, 70), (1, 3), (2, 70), (1, 4), (2, 16), (2, 16), (2, 16), (2, 16), (2, 400), (2, 32), (2, 9), (1, 7), (2, 12), (2, 12), (1, 0), (2, 16), (2, 16), (2, 16), (2, 16), (1, 12), (2, 148), (2, 888), (2, 148), (2, 10), (2, 10), (2, 600), (2, 400), (2, 125), (2, 2), (2, 48), (2, 48), (2, 48), (2, 48), (2, 1200), (2, 1200), (2, 40), (2, 48), (2, 128), (2, 9), (2, 420), (2, 12), (2, 10), (2, 6), (2, 6), (2, 7168), (2, 1024), (2, 4), (2, 2100)]
def zS (a : Nat) : Nat × Nat := if a < 200 then zSl.getD a (0, 0) else if a < 240 then zSl.getD (a - 200) (0, 0) else if a = 240 then (1, 2) else if a = 241 then (2, 7168) else if a = 242 then (2, 60) else (0, 0)
def zty (ci : Nat) : Nat → FieldType := match ci with
  | 0 => tyX0
  | 1 => tyX1
  | 2 => tyX2
  | 3 => tyX3
  | 4 => tyX4
  | 5 => tyX5
  | 6 => tyX6
  | 7 => tyX7
  | 8 => tyX8
  | 9 => tyX9
  | 10 => tyX10
  | 11 => tyX11
  | _ => tyX12
def zcl (ci : Nat) : vw_C := vwCl.getD ci (RX12, TX12, 57)
def zIsR (ci k : Nat) : Bool := match zty ci k with
  | .int => false
  | .boolean => false
  | _ => true
/-- a cell of the int memory gets a value -/
def zu (I : zI) (a i : Nat) (v : Int32) : zI := fun b => if b = a then (fun j => if j = i then v else I a j) else I b
/-- a row of it -/
def zr (I : zI) (a : Nat) (f : Nat → Int32) : zI := fun b => if b = a then f else I b
def zuL (I : zL) (a i : Nat) (v : Int64) : zL := fun b => if b = a then (fun j => if j = i then v else I a j) else I b
def zuR (I : zRt) (a i : Nat) (v : Option Nat) : zRt := fun b => if b = a then (fun j => if j = i then v else I a j) else I b
theorem zu_ne {I : zI} {a i b : Nat} {v : Int32} (h : b ≠ a) : zu I a i v b = I b := by simp [zu, h]
theorem zu_row {I : zI} {a i : Nat} {v : Int32} : zu I a i v a = fun j => if j = i then v else I a j := by simp [zu]
theorem zr_ne {I : zI} {a b : Nat} {f : Nat → Int32} (h : b ≠ a) : zr I a f b = I b := by simp [zr, h]
theorem zr_row {I : zI} {a : Nat} {f : Nat → Int32} : zr I a f a = f := by simp [zr]
theorem zuL_ne {I : zL} {a i b : Nat} {v : Int64} (h : b ≠ a) : zuL I a i v b = I b := by simp [zuL, h]
theorem zuL_row {I : zL} {a i : Nat} {v : Int64} : zuL I a i v a = fun j => if j = i then v else I a j := by simp [zuL]
theorem zuR_ne {I : zRt} {a i b : Nat} {v : Option Nat} (h : b ≠ a) : zuR I a i v b = I b := by simp [zuR, h]
theorem zuR_row {I : zRt} {a i : Nat} {v : Option Nat} : zuR I a i v a = fun j => if j = i then v else I a j := by simp [zuR]
/-- a pure value as the machine has it -/
def zSt (φ : Nat → Nat) (v : Value) : Value := match v with
  | .ref a => .ref (φ a)
  | v => v
theorem zSt_cat (φ : Nat → Nat) (v : Value) : (zSt φ v).category = v.category := by cases v <;> rfl
/-- the cell of a logical address, of its rows -/
def zen (cs : Nat → ClassId) (φ : Nat → Nat) (f : Nat → Int32) (g : Nat → Int64) (r : Nat → Option Nat) (sh : Nat × Nat) : va_E := match sh with
  | (1, ci) => .inr (ci, (List.range (zcl ci).2.2).map (fun k => if zIsR ci k then va_rf ((r k).map φ) else .int (f k)))
  | (2, n) => .inl (cs 0, n, .inl f)
  | (3, n) => .inl (cs 1, n, .inr (.inl g))
  | (4, n) => .inl (cs 2, n, .inr (.inr (.inr (.inr (fun i => (r i).map φ)))))
  | _ => .inr (99, [])
def zEn (cs : Nat → ClassId) (φ : Nat → Nat) (M : ZM) (a : Nat) : va_E := zen cs φ (M.1 a) (M.2.1 a) (M.2.2.1 a) (zS a)
def zWs (cs : Nat → ClassId) (φ : Nat → Nat) (M : ZM) : va_W := M.2.2.2.map (fun a => (φ a, zEn cs φ M a))
theorem zWs_at {cs : Nat → ClassId} {φ : Nat → Nat} {M : ZM} {k a : Nat} (h : M.2.2.2[k]? = some a) : (zWs cs φ M)[k]? = some (φ a, zEn cs φ M a) := by
  unfold zWs
  rw [List.getElem?_map, h]; rfl
theorem zWs_mem {cs : Nat → ClassId} {φ : Nat → Nat} {M : ZM} {a : Nat} (h : a ∈ M.2.2.2) : ∃ k : Nat, M.2.2.2[k]? = some a ∧ (zWs cs φ M)[k]? = some (φ a, zEn cs φ M a) := by
  obtain ⟨k, hk⟩ := List.getElem?_of_mem h
  exact ⟨k, hk, zWs_at hk⟩
/-- one cell changes -/
theorem zWs_set {cs : Nat → ClassId} {φ : Nat → Nat} {M M' : ZM} {A : Nat → Prop} {k a : Nat} (hD : va_D A (zWs cs φ M)) (hk : M.2.2.2[k]? = some a) (hV : M'.2.2.2 = M.2.2.2) (ho : ∀ x, x ≠ a → zEn cs φ M' x = zEn cs φ M x) :
    (zWs cs φ M).set k (φ a, zEn cs φ M' a) = zWs cs φ M' := by
  apply List.ext_getElem?
  intro i
  rw [List.getElem?_set]
  by_cases hi : k = i
  · subst hi
    have hl : k < (zWs cs φ M).length := (List.getElem?_eq_some_iff.mp (zWs_at (cs := cs) (φ := φ) hk)).1
    rw [if_pos rfl, if_pos hl, zWs_at (M := M') (by rw [hV]; exact hk)]
  · rw [if_neg hi]
    unfold zWs
    rw [hV, List.getElem?_map, List.getElem?_map]
    cases hx : M.2.2.2[i]? with
    | none => rfl
    | some x =>
      have hxa : x ≠ a := by
        intro e
        subst e
        exact hi (hD.1 k i _ _ (zWs_at hk) (zWs_at hx) rfl)
      simp only [Option.map_some]
      rw [ho x hxa]
/-! the words -/
def zG : List Cond := lw_tbl.filter goodWord
def zisN (w : Cond) : Bool := match w with
  | .fieldLinkNest _ _ _ _ _ _ => true
  | .methodLinkNest _ _ _ _ => true
  | _ => false
def zNs : List Cond := lw_tbl.filter zisN
theorem zG_good : ∀ w ∈ zG, goodWord w = true := fun w h => (List.mem_filter.mp h).2
theorem zG_at (i : Nat) {w : Cond} (h : lw_tbl[i]? = some w) (hg : goodWord w = true) : w ∈ zG := List.mem_filter.mpr ⟨List.mem_of_getElem? h, hg⟩
theorem zG_in {w : Cond} (h : w ∈ lw_tbl) (hg : goodWord w = true) : w ∈ zG := List.mem_filter.mpr ⟨h, hg⟩
theorem zNs_at (i : Nat) {w : Cond} (h : lw_tbl[i]? = some w) (hg : zisN w = true) : w ∈ zNs := List.mem_filter.mpr ⟨List.mem_of_getElem? h, hg⟩
theorem zNw_warm {w : Cond} (hw : w ∈ zNs) {s U : State} (hW : s.WarmedH U.vm) (h : va_Nw w s) : va_Nw w U := by
  have hn := (List.mem_filter.mp hw).2
  cases w <;> first | exact va_Nw.warmF hW h | exact va_Nw.warmM hW h | cases hn
theorem zNw_same {w : Cond} (hw : w ∈ zNs) {u U : State} (hv : u.vm = U.vm) (h : va_Nw w u) : va_Nw w U := by
  have hn := (List.mem_filter.mp hw).2
  cases w <;> first | exact va_Nw.same rfl hv h | cases hn
def zTys (cs : Nat → ClassId) : List (ClassId × FieldType) := [(cs 0, .int), (cs 1, .long), (cs 2, .object "SackedGlass$Court")]
/-! the String constants: place i's text, its reference ψ i -/
def zTx : List (String × Nat × String) := [("SackedGlass$Law", 46, "sort fear bribe glass kind stand day minister off tell err blame when or and not "), ("SackedGlass$Rounds", 33, "for rise fall "), ("SackedGlass$Agenda", 36, "name bribe glue free recall tap on "), ("SackedGlass$Tape", 62, ";+-*/()<=>")]
def zLen : List Nat := zTx.map (fun q => q.2.2.length)
def zByt : List (List Int32) := zTx.map (fun q => q.2.2.toList.map (fun c => Int32.ofNat c.toNat))
def zStr (A : Nat → Prop) (ψ : Nat → Nat) (U : State) : Prop :=
  (∀ i q, zTx[i]? = some q → vk_R q.1 q.2.1 q.2.2 (ψ i) U) ∧ vk_S 4 zLen zByt ψ (fun i => ψ (10 + i)) A U U.heap ∧ va_Z "java/lang/String" "COMPACT_STRINGS" "Z" (.int 1) A U U.heap ∧ ∃ v : Value, (v = .null ∨ ∃ a, v = .ref a) ∧ va_Z "jdk/internal/util/Preconditions" "SIOOBE_FORMATTER" "Ljava/util/function/BiFunction;" v A U U.heap
/-- what a method needs of its start but its cells -/
def zE (D : va_G) (cs : Nat → ClassId) (A : Nat → Prop) (ψ : Nat → Nat) (U : State) : Prop :=
  va_K D vwCl (zTys cs) U ∧ (∀ w ∈ zNs, va_Nw w U) ∧ (∀ q : Nat, U.heap.size ≤ q → A q) ∧ zStr A ψ U ∧ va_AO "SackedGlass$Court" U
theorem zE.move {D : va_G} {cs : Nat → ClassId} {A : Nat → Prop} {ψ : Nat → Nat} {s U : State} (h : zE D cs A ψ s) (hW : s.WarmedH U.vm) (hz : s.heap.size ≤ U.heap.size) (hk : ∀ a : Nat, a < s.heap.size → ¬ A a → U.heap[a]? = s.heap[a]?) : zE D cs A ψ U := by
  obtain ⟨h1, h2, h3, ⟨h4, h5, h6, v, h8, h9⟩, h7⟩ := h
  exact ⟨va_K.moved hW.alike h1, fun w hw => zNw_warm hw hW (h2 w hw), fun q hq => h3 q (Nat.le_trans hz hq), ⟨fun i q hi => (h4 i q hi).warm hW, vk_S.moved hW.alike (h5.kept hk), va_Z.moved hW.alike (h6.kept hk), v, h8, va_Z.moved hW.alike (h9.kept hk)⟩, va_AO.moved hW.alike h7⟩
theorem zE.same {D : va_G} {cs : Nat → ClassId} {A : Nat → Prop} {ψ : Nat → Nat} {u U : State} (h : zE D cs A ψ u) (hv : u.vm = U.vm) (hh : u.heap = U.heap) : zE D cs A ψ U := by
  obtain ⟨h1, h2, h3, ⟨h4, h5, h6, v, h8, h9⟩, h7⟩ := h
  have ha : u.vm.Alike U.vm := by rw [hv]; exact Vm.Alike.refl U.vm
  rw [hh] at h5 h6 h9
  exact ⟨va_K.moved ha h1, fun w hw => zNw_same hw hv (h2 w hw), fun q hq => h3 q (by rw [hh]; exact hq), ⟨fun i q hi => (h4 i q hi).same hv.symm, vk_S.moved ha h5, va_Z.moved ha h6, v, h8, va_Z.moved ha h9⟩, va_AO.moved ha h7⟩
/-! contracts -/
def zRm (d mc ms : Nat) : Room := { frames := d, cells := mc, slots := ms, locals := 64 * d }
def zWd (y : MethodName) (cc : ByteArray) (nL : Nat) (ret : Option FieldType) : List Cond := Cond.code y cc nL ret :: zG
/-- the addresses: what lived at the start, and what doesn't live now, has its old one -/
def zAg (V0 V : List Nat) (ψ φ0 φ : Nat → Nat) : Prop := (∀ a, (a ∈ V0 ∨ a ∉ V) → φ a = φ0 a) ∧ ∀ i, φ (1000 + i) = ψ i
def zPc (D : va_G) (cs : Nat → ClassId) (A : Nat → Prop) (ψ φ : Nat → Nat) (as : List Value) (M : ZM) : Array Value → State → Prop := fun v U =>
  v = (as.map (zSt φ)).toArray ∧ zE D cs A ψ U ∧ (∀ i, φ (1000 + i) = ψ i) ∧ va_P D vwCl (zWs cs φ M) U.heap ∧ va_D A (zWs cs φ M)
def zQc (D : va_G) (cs : Nat → ClassId) (A : Nat → Prop) (ψ φ0 : Nat → Nat) (V0 : List Nat) (r : Option Value) (M' : ZM) : Array Value → State → Outcome → State → Prop := fun _ st oc t =>
  ∃ φ' : Nat → Nat, zAg V0 M'.2.2.2 ψ φ0 φ' ∧ oc = .returned (r.map (zSt φ')) ∧ va_P D vwCl (zWs cs φ' M') t.heap ∧ va_D A (zWs cs φ' M') ∧ va_F A st t
def zMt (y : MethodName) (cc : ByteArray) (nL : Nat) (ret : Option FieldType) (d mc ms : Nat) (as : List Value) (M : ZM) (r : Option Value) (M' : ZM) : Prop :=
  ∀ (l : Launch) (D : va_G) (cs : Nat → ClassId) (A : Nat → Prop) (ψ φ : Nat → Nat), Met l y (zWd y cc nL ret) (zRm d mc ms) (zPc D cs A ψ φ as M) (zQc D cs A ψ φ M.2.2.2 r M') mc ms A
theorem zPc_blind {D : va_G} {cs : Nat → ClassId} {A : Nat → Prop} {ψ φ : Nat → Nat} {as : List Value} {M : ZM} : FrameBlind (zPc D cs A ψ φ as M) := fun a U g mk h => ⟨h.1, h.2.1.same (u := U) (U := U.calling g mk a) rfl rfl, h.2.2.1, h.2.2.2⟩
def zLc (lsM : Array Slot) (nL : Nat) (φ : Nat → Nat) (ls : List (Option Value)) : Prop := lsM.size = nL ∧ lv_wf lsM ∧ ∀ (i : Nat) (v : Value), ls[i]? = some (some v) → lsM[i]? = some (.val (zSt φ v))
def zFx (own nm : String) (cc : ByteArray) (nL : Nat) (ret : Option FieldType) (D : va_G) (cs : Nat → ClassId) (A : Nat → Prop) (ψ : Nat → Nat) (p : Program) (s : State) (m : MethodId) (args : Array Value) (meth : Method) (c : Code) : Prop :=
  p.tables.exec = Jvm.exec ∧ c.code = cc ∧ meth.sig.returnType = ret ∧ c.maxLocals = nL ∧ s.vm.findClass own = some m.cls ∧ meth.locks = false ∧ (∀ w ∈ zG, w.before args s = true) ∧ zE D cs A ψ s ∧ meth.name = nm
/-- from this place on the method comes to its end, with that answer and that memory -/
def ZW (own nm : String) (cc : ByteArray) (nL : Nat) (ret : Option FieldType) (d mc ms : Nat) (V0 : List Nat) (cells slots : Nat) (pc : Nat) (ls : List (Option Value)) (st : List Value) (M : ZM) (r : Option Value) (M' : ZM) : Prop :=
  ∀ (p : Program) (l : Launch) (e : Env) (s : State) (m : MethodId) (args : Array Value) (below : List Frame) (meth : Method) (c : Code) (D : va_G) (cs : Nat → ClassId) (A : Nat → Prop) (ψ φ0 φ : Nat → Nat) (H : Heap) (locs : List Loc) (lsM : Array Slot),
    zFx own nm cc nL ret D cs A ψ p s m args meth c → zAg V0 M.2.2.2 ψ φ0 φ → va_P D vwCl (zWs cs φ M) H → va_D A (zWs cs φ M) → va_S A s.heap H locs → zLc lsM nL φ ls →
    W p l e (zRm d mc ms) s m args below meth c H locs cells slots (MQ below (zQc D cs A ψ φ0 V0 r M') args s mc ms A) (F0 m pc lsM (st.map (zSt φ)))
/-! a method's beginning -/
def zEnt (as : List Value) (nL : Nat) : List (Option Value) := as.map some ++ List.replicate (nL - as.length) none
def z1 (as : List Value) : Bool := as.all (fun v => v.category == 1)
theorem zlg {vs : List Value} (h : z1 vs = true) : lg_sl vs = vs.map Slot.val := by
  induction vs with
  | nil => rfl
  | cons v vs ih =>
    simp only [z1, List.all_cons, Bool.and_eq_true, beq_iff_eq] at h
    have h2 := ih h.2
    unfold lg_sl at h2 ⊢
    rw [List.flatMap_cons, h2, if_neg (by omega)]
    rfl
theorem zargs {vs : List Value} (h : z1 vs = true) : ∀ (n i : Nat) (v : Value), vs[i]? = some v → (n + i, v) ∈ lv_args n vs := by
  induction vs with
  | nil => intro n i v hi; simp at hi
  | cons w vs ih =>
    simp only [z1, List.all_cons, Bool.and_eq_true, beq_iff_eq] at h
    intro n i v hi
    unfold lv_args
    rw [if_neg (show ¬ w.category = 2 by omega)]
    cases i with
    | zero =>
      simp only [List.getElem?_cons_zero, Option.some.injEq] at hi
      subst hi
      exact List.mem_cons_self
    | succ i =>
      rw [List.getElem?_cons_succ] at hi
      have := ih h.2 (n + 1) i v hi
      rw [show n + (i + 1) = n + 1 + i by omega]
      exact List.mem_cons_of_mem _ this
theorem z1_map (φ : Nat → Nat) {as : List Value} (h : z1 as = true) : z1 (as.map (zSt φ)) = true := by
  simp only [z1, List.all_eq_true, List.mem_map, beq_iff_eq] at h ⊢
  rintro v ⟨w, hw, rfl⟩
  rw [zSt_cat]; exact h w hw
theorem zLc_entry {as : List Value} {nL : Nat} (φ : Nat → Nat) (h : z1 as = true) (hn : as.length ≤ nL) :
    zLc ((lg_sl (as.map (zSt φ)) ++ List.replicate (nL - (lg_sl (as.map (zSt φ))).length) Slot.unset).toArray) nL φ (zEnt as nL) := by
  have h1 := z1_map φ h
  have hl : (lg_sl (as.map (zSt φ))).length = as.length := by rw [zlg h1]; simp
  obtain ⟨e1, e2, e3⟩ := lv_entry (as.map (zSt φ)) (n := nL) (by rw [hl]; exact hn)
  refine ⟨e1, e2, fun i v hi => ?_⟩
  unfold zEnt at hi
  by_cases hlt : i < as.length
  · rw [List.getElem?_append_left (by simpa using hlt), List.getElem?_map] at hi
    cases hv : as[i]? with
    | none => rw [hv] at hi; cases hi
    | some w =>
      rw [hv] at hi
      simp only [Option.map_some, Option.some.injEq] at hi
      subst hi
      have := zargs h1 0 i (zSt φ w) (by rw [List.getElem?_map, hv]; rfl)
      exact e3 (i, zSt φ w) (by simpa using this)
  · rw [List.getElem?_append_right (by simpa using hlt)] at hi
    obtain ⟨hq, hz⟩ := List.getElem?_eq_some_iff.mp hi
    simp at hz
theorem zMt_of {y : MethodName} {cc : ByteArray} {nL : Nat} {ret : Option FieldType} {d mc ms : Nat} {as : List Value} {M : ZM} {r : Option Value} {M' : ZM} (hy : plainFor y = true) (h1 : z1 as = true) (hn : as.length ≤ nL)
    (h : ZW y.cls y.name cc nL ret d mc ms M.2.2.2 0 0 0 (zEnt as nL) [] M r M') : zMt y cc nL ret d mc ms as M r M' := by
  intro l D cs A ψ φ
  refine va_MetF (cc := cc) (maxL := nL) (ret := ret) hy rfl ?_
  intro p e s m args below meth c s₁ B hml hv
  obtain ⟨rfl, hE, hψ, hP, hD⟩ := hv
  have hts := atoms_spec (ws := zWd y cc nL ret) B.pre
  have hown : s.vm.findClass y.cls = some m.cls := findClass_of_methodNamed B.named
  rw [lg_entry_eq]
  exact h p l e s m _ below meth c D cs A ψ φ φ s.heap [] _ ⟨B.exec, B.bytes, B.returns, hml, hown, B.notSynchronized, fun w hw => hts w (List.mem_cons_of_mem _ hw), hE, (name_of_methodNamed B.named B.method).1⟩ ⟨fun _ _ => rfl, hψ⟩ hP hD va_S.rf (zLc_entry φ h1 hn)
