/-! STRING CONSTANTS: the text number i at 1000 + i, its bytes at 1010 + i -/
def zNr (ty : FieldType) (x : Int32) : Bool := decide (narrow ty (.int x) = .int x)
def zln (a : Nat) : Nat := zLen.getD (a - 1010) 0
def zbt (a k : Nat) : Int32 := (zByt.getD (a - 1010) []).getD k 0
def zisS (a : Nat) : Bool := Nat.ble 1000 a && Nat.blt a 1004
def zisB (a : Nat) : Bool := Nat.ble 1010 a && Nat.blt a 1014
def fLdS {μ : Type} (n i : Nat) : zF μ := fun ls st M => some (true, (n, ls, .ref (1000 + i) :: st, M), none)
def fGsv {μ : Type} (n : Nat) : zF μ := fun ls st M => match st with
  | .ref a :: st => some (zisS a, (n, ls, .ref (a + 10) :: st, M), none)
  | _ => none
def fGsc {μ : Type} (n : Nat) : zF μ := fun ls st M => match st with
  | .ref a :: st => some (zisS a, (n, ls, .int 0 :: st, M), none)
  | _ => none
def fAln {μ : Type} (n : Nat) : zF μ := fun ls st M => match st with
  | .ref a :: st => some (zisB a, (n, ls, .int (nI (zln a)) :: st, M), none)
  | _ => none
def fBal {μ : Type} (n : Nat) : zF μ := fun ls st M => match st with
  | .int i :: .ref a :: st => some (zisB a && zb i (zln a), (n, ls, .int (zbt a (zx i)) :: st, M), none)
  | _ => none
def oNret {μ : Type} (ty : FieldType) : zAct μ := fun _ _ st M => match st with
  | [.int x] => bif zNr ty x then some (some (.int x), M) else none
  | _ => none
theorem zisS_of {a : Nat} (h : zisS a = true) : ∃ i, i < 4 ∧ a = 1000 + i := by
  unfold zisS at h
  simp only [Bool.and_eq_true, Nat.ble_eq, Nat.blt_eq] at h
  exact ⟨a - 1000, by omega, by omega⟩
theorem zisB_of {a : Nat} (h : zisB a = true) : ∃ i, i < 4 ∧ a = 1000 + (10 + i) ∧ a - 1010 = i := by
  unfold zisB at h
  simp only [Bool.and_eq_true, Nat.ble_eq, Nat.blt_eq] at h
  exact ⟨a - 1010, by omega, by omega, rfl⟩
section ZSTR
variable {μ : Type} {emb : μ → ZM} {own nm : String} {cc : ByteArray} {nL : Nat} {ret : Option FieldType} {d mc ms : Nat} {V0 : List Nat} {cells slots : Nat} {pc : Nat}
theorem s_ldcS {i idx : Nat} {tx : String} (hq : zTx[i]? = some (own, idx, tx)) (hd : decode cc pc = .ok (.ldc idx, 2)) : zOk emb own nm cc nL ret d mc ms V0 cells slots pc (oS (fLdS (pc + 2) i)) := by
  refine oS_ok (fun ls st M b q o hf r M' h1 h2 => ?_)
  unfold fLdS at hf
  simp only [Option.some.injEq, Prod.mk.injEq] at hf
  obtain ⟨hb, hq', ho⟩ := hf
  subst hb; subst hq'
  intro p l e s m args below meth c D cs A ψ φ0 φ H locs lsM hF hA hP hD hS hL
  have h' := h1 rfl p l e s m args below meth c D cs A ψ φ0 φ H locs lsM hF hA hP hD hS hL
  have e1 : zSt φ (.ref (1000 + i)) = .ref (ψ i) := by show Value.ref (φ (1000 + i)) = _; rw [hA.2 i]
  rw [List.map_cons, e1] at h'
  exact va_ldcS hF.1 hF.2.1 hF.2.2.2.2.1 (hF.2.2.2.2.2.2.2.1.2.2.2.1.1 i _ hq) hd h'
theorem s_sval {idx : Nat} (hl : Cond.fieldLink own idx "java/lang/String" "value" "[B" ∈ zG) (hd : decode cc pc = .ok (.getfield idx, 3)) : zOk emb own nm cc nL ret d mc ms V0 cells slots pc (oS (fGsv (pc + 3))) := by
  refine oS_ok (fun ls st M b q o hf r M' h1 h2 => ?_)
  unfold fGsv at hf
  split at hf
  next a st =>
    simp only [Option.some.injEq, Prod.mk.injEq] at hf
    obtain ⟨hb, hq, ho⟩ := hf
    subst hq
    cases b with
    | false => obtain ⟨q2, e, -⟩ := h2 rfl; rw [← ho] at e; cases e
    | true =>
      obtain ⟨i, hi, rfl⟩ := zisS_of hb
      intro p l e s m args below meth c D cs A ψ φ0 φ H locs lsM hF hA hP hD hS hL
      have h' := h1 rfl p l e s m args below meth c D cs A ψ φ0 φ H locs lsM hF hA hP hD hS hL
      have e1 : zSt φ (.ref (1000 + i)) = .ref (ψ i) := by show Value.ref (φ (1000 + i)) = _; rw [hA.2 i]
      have e2 : zSt φ (.ref (1000 + i + 10)) = .ref (ψ (10 + i)) := by show Value.ref (φ (1000 + i + 10)) = _; rw [show 1000 + i + 10 = 1000 + (10 + i) by omega, hA.2]
      rw [List.map_cons, e2] at h'
      rw [List.map_cons, e1]
      exact vk_getf hF.1 hF.2.1 ((hF.2.2.2.2.2.2.2.1.2.2.2.1.2.1.1 i hi).2.2.1) hS hF.2.2.2.2.1 (hF.2.2.2.2.2.2.1 _ hl) (fun _ h => h) hd h'
  next => cases hf
theorem s_scod {idx : Nat} (hl : Cond.fieldLink own idx "java/lang/String" "coder" "B" ∈ zG) (hd : decode cc pc = .ok (.getfield idx, 3)) : zOk emb own nm cc nL ret d mc ms V0 cells slots pc (oS (fGsc (pc + 3))) := by
  refine oS_ok (fun ls st M b q o hf r M' h1 h2 => ?_)
  unfold fGsc at hf
  split at hf
  next a st =>
    simp only [Option.some.injEq, Prod.mk.injEq] at hf
    obtain ⟨hb, hq, ho⟩ := hf
    subst hq
    cases b with
    | false => obtain ⟨q2, e, -⟩ := h2 rfl; rw [← ho] at e; cases e
    | true =>
      obtain ⟨i, hi, rfl⟩ := zisS_of hb
      intro p l e s m args below meth c D cs A ψ φ0 φ H locs lsM hF hA hP hD hS hL
      have h' := h1 rfl p l e s m args below meth c D cs A ψ φ0 φ H locs lsM hF hA hP hD hS hL
      have e1 : zSt φ (.ref (1000 + i)) = .ref (ψ i) := by show Value.ref (φ (1000 + i)) = _; rw [hA.2 i]
      rw [List.map_cons, e1]
      exact vk_getf hF.1 hF.2.1 ((hF.2.2.2.2.2.2.2.1.2.2.2.1.2.1.1 i hi).2.1) hS hF.2.2.2.2.1 (hF.2.2.2.2.2.2.1 _ hl) (fun _ h => h) hd h'
  next => cases hf
theorem s_scmp {idx : Nat} (hl : Cond.fieldLink own idx "java/lang/String" "COMPACT_STRINGS" "Z" ∈ zG) (hd : decode cc pc = .ok (.getstatic idx, 3)) : zOk emb own nm cc nL ret d mc ms V0 cells slots pc (oS (fSt (pc + 3) (gC (.int 1)))) := by
  refine oS_ok (fun ls st M b q o hf r M' h1 h2 => ?_)
  unfold fSt gC at hf
  simp only [Option.some.injEq, Prod.mk.injEq] at hf
  obtain ⟨hb, hq, ho⟩ := hf
  subst hb; subst hq
  intro p l e s m args below meth c D cs A ψ φ0 φ H locs lsM hF hA hP hD hS hL
  exact va_gets hF.1 hF.2.1 hF.2.2.2.2.2.2.2.1.2.2.2.1.2.2.1 hS hF.2.2.2.2.1 (hF.2.2.2.2.2.2.1 _ hl) (fun _ h => h) hd (h1 rfl p l e s m args below meth c D cs A ψ φ0 φ H locs lsM hF hA hP hD hS hL)
theorem s_slen (hd : decode cc pc = .ok (.arraylength, 1)) : zOk emb own nm cc nL ret d mc ms V0 cells slots pc (oS (fAln (pc + 1))) := by
  refine oS_ok (fun ls st M b q o hf r M' h1 h2 => ?_)
  unfold fAln at hf
  split at hf
  next a st =>
    simp only [Option.some.injEq, Prod.mk.injEq] at hf
    obtain ⟨hb, hq, ho⟩ := hf
    subst hq
    cases b with
    | false => obtain ⟨q2, e, -⟩ := h2 rfl; rw [← ho] at e; cases e
    | true =>
      obtain ⟨i, hi, ha, ha2⟩ := zisB_of hb
      intro p l e s m args below meth c D cs A ψ φ0 φ H locs lsM hF hA hP hD hS hL
      have h' := h1 rfl p l e s m args below meth c D cs A ψ φ0 φ H locs lsM hF hA hP hD hS hL
      have e1 : zSt φ (.ref a) = .ref (ψ (10 + i)) := by show Value.ref (φ a) = _; rw [ha, hA.2]
      rw [List.map_cons, e1]
      exact va_tlen hF.1 hF.2.1 ((hF.2.2.2.2.2.2.2.1.2.2.2.1.2.1.1 i hi).2.2.2) hS (by unfold zln nI; rw [ha2]) hd h'
  next => cases hf
theorem s_sbal (hd : decode cc pc = .ok (.baload, 1)) : zOk emb own nm cc nL ret d mc ms V0 cells slots pc (oS (fBal (pc + 1))) := by
  refine oS_ok (fun ls st M b q o hf r M' h1 h2 => ?_)
  unfold fBal at hf
  split at hf
  next i a st =>
    simp only [Option.some.injEq, Prod.mk.injEq] at hf
    obtain ⟨hb, hq, ho⟩ := hf
    subst hq
    cases b with
    | false => obtain ⟨q2, e, -⟩ := h2 rfl; rw [← ho] at e; cases e
    | true =>
      simp only [Bool.and_eq_true] at hb
      obtain ⟨j, hj, ha, ha2⟩ := zisB_of hb.1
      intro p l e s m args below meth c D cs A ψ φ0 φ H locs lsM hF hA hP hD hS hL
      have h' := h1 rfl p l e s m args below meth c D cs A ψ φ0 φ H locs lsM hF hA hP hD hS hL
      have e1 : zSt φ (.ref a) = .ref (ψ (10 + j)) := by show Value.ref (φ a) = _; rw [ha, hA.2]
      have hin := zb_in hb.2
      unfold zln at hin
      rw [ha2] at hin
      rw [List.map_cons, List.map_cons, e1]
      exact va_tb hF.1 hF.2.1 ((hF.2.2.2.2.2.2.2.1.2.2.2.1.2.1.1 j hj).2.2.2) hS hin (by unfold zbt; rw [ha2]; rfl) hd h'
  next => cases hf
theorem s_nret {ty : FieldType} (hr : ret = some ty) (hc : cells = mc) (hs : slots = ms) (hd : decode cc pc = .ok (.ireturn, 1)) : zOk emb own nm cc nL ret d mc ms V0 cells slots pc (oNret ty) := by
  subst hc; subst hs; subst hr
  refine ⟨fun ls st M => Or.inl ⟨oNret ty (fun _ _ _ _ => none) ls st M, fun _ => rfl⟩, fun nx ls st M r M' ha hn => ?_⟩
  unfold oNret at ha
  split at ha
  next x =>
    cases hx : zNr ty x with
    | false => rw [hx] at ha; cases ha
    | true =>
      rw [hx] at ha
      simp only [cond_true, Option.some.injEq, Prod.mk.injEq] at ha
      obtain ⟨rfl, rfl⟩ := ha
      intro p l e s m args below meth c D cs' A ψ φ0 φ H locs lsM hF hA hP hD hS hL
      exact W.zret (ty := ty) hF.1 hF.2.1 hF.2.2.1 (of_decide_eq_true hx) (fun t ht hw => ⟨φ, hA, rfl, by rw [ht]; exact hP, hD, hS.F ht⟩) (fun q hq => hS.2.2 q hq) hd (hlocks := hF.2.2.2.2.2.1)
  next => cases ha
end ZSTR
/-! calls on a text -/
def zct (as : List Value) : Bool := match as with
  | .ref b :: _ => zisS b
  | _ => false
theorem co_T {g : zg} {own nm : String} {cc : ByteArray} {nL : Nat} {ret : Option FieldType} {d mc ms : Nat} {V0 : List Nat} {cells slots : Nat} {pc : Nat} {y : MethodName} {cc' : ByteArray} {nL' : Nat} {ret' : Option FieldType} {d' n idx : Nat} {F : List Value → zM → Option (Option Value × zM)} (hF : ∀ as M r M', F as M = some (r, M') → zMt y cc' nL' ret' d' 0 0 as (zem g M) r (zem g M')) (hy : y.cls = "java/lang/String") (hw : zMV y cc' nL' ret' n) (hl : zMl own idx y) (hroom : d' + 1 ≤ d ∧ 8 + (nL' + 11) + 64 * d' ≤ 64 * d) (hmc : cells ≤ mc ∧ slots ≤ ms) (hd : decode cc pc = .ok (.invokevirtual idx, 3)) : zCO (zem g) own nm cc nL ret d mc ms V0 cells slots pc (n + 1) zct F := by
  intro as st' M r1 M1 hc hn hst hf ls r M' h
  cases as with
  | nil => cases hc
  | cons v as =>
    cases v with
    | ref b =>
      have hc : zisS b = true := hc
      obtain ⟨i, hi, rfl⟩ := zisS_of hc
      have hM := hF _ _ _ _ hf
      intro p l e s m args below meth c D cs A ψ φ0 φ H locs lsM hFx hA hP hD hS hL
      obtain ⟨hx, hb, hr, hml, hown, hlk, hts, hE, hnm⟩ := id hFx
      obtain ⟨w1, w2, w3, w4, w5, w6, w7⟩ := hw
      have hG : GoodIn zG (wsV own idx y.cls y (zWd y cc' nL' ret')) := fun w hw => by
        unfold wsV at hw
        simp only [List.mem_append, List.mem_cons, List.not_mem_nil, or_false] at hw
        rcases hw with (rfl | rfl | rfl | rfl) | hw
        · exact zG_GoodIn _ hl
        · exact zG_GoodIn _ w1
        · exact zG_GoodIn _ w2
        · exact zG_GoodIn _ w3
        · exact zWd_good w4 w hw
      have hrec := vk_recv hE.2.2.2.1.2.1 hi hS
      rw [← hy] at hrec
      rw [← hA.2 i] at hrec
      have hAg : zAg V0 (zem g M1).2.2.2 ψ φ0 φ := hA
      refine zAfter (M := zem g M) (st := st') (va_runV (R := zRm d mc ms) (As := as.map (zSt φ)) (rest := st'.map (zSt φ)) (b := φ (1000 + i)) ⟨hx, hb, hml, hown, hts⟩ (hM l D cs A ψ φ) (cwV n hts hG rfl rfl rfl ⟨rfl, w5, w6, w7⟩ hroom) ⟨zPc_blind, hrec, fun U hU hW => zPre_of (as := .ref (1000 + i) :: as) hE hA.2 hP hD hS U hU hW⟩ rfl (by rw [List.length_map]; simpa using hn) hL.1 ?_ (lv_room (zcatR hst)) hd hmc) rfl hS (fun H1 locs1 hP1 hD1 hS1 => h p l e s m args below meth c D cs A ψ φ0 φ H1 locs1 lsM hFx hAg hP1 hD1 hS1 hL)
      show ((Value.ref (1000 + i) :: as).reverse ++ st').map (zSt φ) = _
      simp only [List.reverse_cons, List.append_assoc, List.map_append, List.map_reverse, List.singleton_append, List.map_cons]
      rfl
    | _ => cases hc
/-! String.checkIndex, where the index is in range -/
theorem ck_0 : decode cJ3_checkIndex_8e157 0 = .ok (.iload_n 0, 1) := by decide +kernel
theorem ck_1 : decode cJ3_checkIndex_8e157 1 = .ok (.ifCond .lt 8, 3) := by decide +kernel
theorem ck_4 : decode cJ3_checkIndex_8e157 4 = .ok (.iload_n 0, 1) := by decide +kernel
theorem ck_5 : decode cJ3_checkIndex_8e157 5 = .ok (.iload_n 1, 1) := by decide +kernel
theorem ck_6 : decode cJ3_checkIndex_8e157 6 = .ok (.if_icmp .lt 10, 3) := by decide +kernel
theorem ck_16 : decode cJ3_checkIndex_8e157 16 = .ok (.iload_n 0, 1) := by decide +kernel
theorem ck_17 : decode cJ3_checkIndex_8e157 17 = .ok (.ireturn, 1) := by decide +kernel
theorem cj_0 : decode cJ0_checkIndex_df160 0 = .ok (.iload_n 0, 1) := by decide +kernel
theorem cj_1 : decode cJ0_checkIndex_df160 1 = .ok (.iload_n 1, 1) := by decide +kernel
theorem cj_2 : decode cJ0_checkIndex_df160 2 = .ok (.getstatic 1053, 3) := by decide +kernel
theorem cj_5 : decode cJ0_checkIndex_df160 5 = .ok (.invokestatic 1059, 3) := by decide +kernel
theorem cj_8 : decode cJ0_checkIndex_df160 8 = .ok (.pop, 1) := by decide +kernel
theorem cj_9 : decode cJ0_checkIndex_df160 9 = .ok (.return_, 1) := by decide +kernel
theorem ck_met (l : Launch) {i n : Int32} {x : Value} (hx : x = .null ∨ ∃ a, x = .ref a) (h0 : ¬ i < 0) (h1 : i < n) : Met l yJ3_checkIndex_8e157 [Cond.code yJ3_checkIndex_8e157 cJ3_checkIndex_8e157 3 (some .int)] (zRm 1 0 0) (fun v _ => v = ([.int i, .int n, x] : List Value).toArray) (QcRead i) 0 0 (fun _ => False) := by
  have hc : x.category = 1 := by rcases hx with rfl | ⟨a, rfl⟩ <;> rfl
  refine va_MetF (cc := cJ3_checkIndex_8e157) (maxL := 3) (ret := some .int) (by decide +kernel) rfl ?_
  intro p e s m args below meth c s₁ B hml hv
  obtain rfl := hv
  have hz1 : z1 [.int i, .int n, x] = true := by
    show (true && (true && ((x.category == 1) && true))) = true
    rw [hc]; rfl
  have hl := lv_entry ([.int i, .int n, x]) (n := 3) (by rw [zlg hz1]; exact Nat.le_of_ble_eq_true rfl)
  have ha := zargs hz1 0
  rw [lg_entry_eq]
  generalize (lg_sl ([.int i, .int n, x]) ++ List.replicate (3 - (lg_sl ([.int i, .int n, x])).length) Slot.unset).toArray = ls at hl ⊢
  have l0 : ls[0]? = some (.val (.int i)) := hl.2.2 (0, .int i) (by simpa using ha 0 (.int i) rfl)
  have l1 : ls[1]? = some (.val (.int n)) := hl.2.2 (1, .int n) (by simpa using ha 1 (.int n) rfl)
  refine lv_iload_n B.exec B.bytes ck_0 rfl l0 ?_
  refine lv_if_lt (tgt := 9) B.exec B.bytes ck_1 (by decide) (fun h => absurd h h0) (fun _ => ?_)
  refine lv_iload_n B.exec B.bytes ck_4 rfl l0 ?_
  refine lv_iload_n B.exec B.bytes ck_5 rfl l1 ?_
  refine lv_icmp_lt (tgt := 16) B.exec B.bytes ck_6 (by decide) (fun _ => ?_) (fun h => absurd h1 h)
  refine lv_iload_n B.exec B.bytes ck_16 rfl l0 ?_
  exact W.iret B.exec B.bytes B.returns (fun t ht _ => ⟨rfl, ht⟩) (fun q hq => by cases hq) ck_17 (hlocks := B.notSynchronized)
theorem ck_l : Cond.methodLink RJ0 1059 yJ3_checkIndex_8e157 ∈ zG := zG_in (by decide +kernel) rfl
theorem ck_s : Cond.static yJ3_checkIndex_8e157 ∈ zG := zG_in (by decide +kernel) rfl
theorem ck_i : Cond.initialized yJ3_checkIndex_8e157.cls ∈ zG := zG_in (by decide +kernel) rfl
theorem ck_c : Cond.code yJ3_checkIndex_8e157 cJ3_checkIndex_8e157 3 (some .int) ∈ zG := zG_in (by decide +kernel) rfl
theorem ck_f : Cond.fieldLink RJ0 1053 "jdk/internal/util/Preconditions" "SIOOBE_FORMATTER" "Ljava/util/function/BiFunction;" ∈ zG := zG_in (by decide +kernel) rfl
theorem mt_chk {i n : Int32} (h0 : ¬ i < 0) (h1 : i < n) (M : ZM) : zMt yJ0_checkIndex_df160 cJ0_checkIndex_df160 2 none 2 0 0 [.int i, .int n] M none M := by
  refine zMt_of (by decide +kernel) rfl (Nat.le_of_ble_eq_true rfl) ?_
  intro p l e s m args below meth c D cs A ψ φ0 φ H locs lsM hF hA hP hD hS hL
  obtain ⟨hx, hb, hr, hml, hown, hlk, hts, hE, hnm⟩ := id hF
  obtain ⟨-, -, -, v, hv, hZ⟩ := hE.2.2.2.1
  have hc : v.category = 1 := by rcases hv with rfl | ⟨a, rfl⟩ <;> rfl
  refine lv_iload_n hx hb cj_0 rfl (hL.2.2 0 (.int i) rfl) ?_
  refine lv_iload_n hx hb cj_1 rfl (hL.2.2 1 (.int n) rfl) ?_
  refine va_gets hx hb hZ hS hown (hts _ ck_f) (fun _ h => h) cj_2 ?_
  have hG : GoodIn zG (va_wsS RJ0 1059 yJ3_checkIndex_8e157 [Cond.code yJ3_checkIndex_8e157 cJ3_checkIndex_8e157 3 (some .int)]) := fun w hw => by
    unfold va_wsS at hw
    simp only [List.mem_append, List.mem_cons, List.not_mem_nil, or_false] at hw
    rcases hw with (rfl | rfl | rfl) | rfl
    · exact zG_GoodIn _ ck_l
    · exact zG_GoodIn _ ck_s
    · exact zG_GoodIn _ ck_i
    · exact zG_GoodIn _ ck_c
  refine W.callR (W.runS (As := [.int i, .int n, v]) (rest := []) ⟨hx, hb, hml, hown, hts⟩ (ck_met l hv h0 h1) (va_cwS 3 hts hG rfl rfl rfl (by decide +kernel) ⟨by decide, by decide⟩) ⟨fun _ _ _ _ h => h, fun U hU hW => rfl⟩ rfl rfl hL.1 rfl (lv_room (by decide)) cj_5 ⟨Nat.le_refl _, Nat.le_refl _⟩) ?_
  refine lv_pop hx hb cj_8 rfl ?_
  exact W.vret hx hb hr (fun t ht hw => ⟨φ, hA, rfl, by rw [ht]; exact hP, hD, hS.F ht⟩) (fun q hq => hS.2.2 q hq) cj_9 (hlocks := hlk)
/-- as a call -/
noncomputable def X_chk : List Value → zM → Option (Option Value × zM) := fun as M => match as with
  | [.int i, .int n] => bif !cLt0 i && cLt i n then some (none, M) else none
  | _ => none
theorem mt_X_chk {g : zg} : ∀ as M r M', X_chk as M = some (r, M') → zMt yJ0_checkIndex_df160 cJ0_checkIndex_df160 2 none 2 0 0 as (zem g M) r (zem g M') := by
  intro as M r M' h
  unfold X_chk at h
  split at h
  next i n =>
    cases hc : (!cLt0 i && cLt i n) with
    | false => rw [hc] at h; cases h
    | true =>
      rw [hc] at h
      simp only [cond_true, Option.some.injEq, Prod.mk.injEq] at h
      obtain ⟨rfl, rfl⟩ := h
      simp only [Bool.and_eq_true, Bool.not_eq_true'] at hc
      exact mt_chk (of_decide_eq_false hc.1) (of_decide_eq_true hc.2) _
  next => cases h
/-- a place that no run comes to -/
def oNo {μ : Type} : zAct μ := fun _ _ _ _ => none
theorem s_no {μ : Type} {emb : μ → ZM} {own nm : String} {cc : ByteArray} {nL : Nat} {ret : Option FieldType} {d mc ms : Nat} {V0 : List Nat} {cells slots : Nat} {pc : Nat} : zOk emb own nm cc nL ret d mc ms V0 cells slots pc oNo := ⟨fun _ _ _ => Or.inl ⟨none, fun _ => rfl⟩, fun nx ls st M r M' ha hn => by cases ha⟩
