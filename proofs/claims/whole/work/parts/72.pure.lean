/-! THE CONSTRUCTORS, printed by mk72.py -/
section ZSM
variable {own nm : String} {cc : ByteArray} {nL : Nat} {ret : Option FieldType} {d mc ms : Nat} {V0 : List Nat} {cells slots : Nat} {pc : Nat} {ls : List (Option Value)} {st : List Value} {M : ZM} {r : Option Value} {M' : ZM}
theorem ZW_sm {pc' : Nat} {act : zAct ZM} {ls' : List (Option Value)} {st' : List Value} (h : zOk (fun M => M) own nm cc nL ret d mc ms V0 cells slots pc act) (ha : ∀ nx : zK ZM, act nx ls st M = nx pc' ls' st' M) (k : ZW own nm cc nL ret d mc ms V0 cells slots pc' ls' st' M r M') : ZW own nm cc nL ret d mc ms V0 cells slots pc ls st M r M' := ZW_st h ha k
end ZSM
theorem cb_ai : Cond.arrayClass .int ∈ zG := zGt1 64 (by decide +kernel) rfl
theorem cb_al : Cond.arrayClass .long ∈ zG := zGt2 88 (by decide +kernel) rfl
theorem cb_oi : Cond.instanceMethod Lib.objectInit ∈ zG := zGt1 28 (by decide +kernel) rfl
theorem cb_oc : Cond.code Lib.objectInit ⟨#[0xb1]⟩ 1 none ∈ zG := zGt1 29 (by decide +kernel) rfl
def dl_X9_init : List (Nat × Instr × Nat) := [(0, .aload_n 0, 1), (1, .invokespecial 3, 3), (4, .aload_n 0, 1), (5, .sipush 400, 3), (8, .newarray .int, 2), (10, .putfield 11, 3), (13, .aload_n 0, 1), (14, .sipush 401, 3), (17, .newarray .int, 2), (19, .putfield 15, 3), (22, .aload_n 0, 1), (23, .sipush 401, 3), (26, .newarray .int, 2), (28, .putfield 18, 3), (31, .aload_n 0, 1), (32, .sipush 401, 3), (35, .newarray .int, 2), (37, .putfield 21, 3), (40, .aload_n 0, 1), (41, .iconst (-1), 1), (42, .putfield 24, 3), (45, .return_, 1)]
set_option maxRecDepth 20000 in
theorem dk_X9_init : ∀ q ∈ dl_X9_init, decode cX9_init q.1 = .ok q.2 := by decide +kernel
theorem cm_RX9_3 : Cond.methodLink RX9 3 Lib.objectInit ∈ zG := zGt1 35 (by decide +kernel) rfl
theorem cf_RX9_11 : Cond.fieldLink RX9 11 ((zcl 9).2.1 0).1 ((zcl 9).2.1 0).2.1 ((zcl 9).2.1 0).2.2.1 ∈ zG := zGt1 36 (by decide +kernel) rfl
theorem cf_RX9_15 : Cond.fieldLink RX9 15 ((zcl 9).2.1 1).1 ((zcl 9).2.1 1).2.1 ((zcl 9).2.1 1).2.2.1 ∈ zG := zGt1 37 (by decide +kernel) rfl
theorem cf_RX9_18 : Cond.fieldLink RX9 18 ((zcl 9).2.1 2).1 ((zcl 9).2.1 2).2.1 ((zcl 9).2.1 2).2.2.1 ∈ zG := zGt1 38 (by decide +kernel) rfl
theorem cf_RX9_21 : Cond.fieldLink RX9 21 ((zcl 9).2.1 3).1 ((zcl 9).2.1 3).2.1 ((zcl 9).2.1 3).2.2.1 ∈ zG := zGt1 39 (by decide +kernel) rfl
theorem cf_RX9_24 : Cond.fieldLink RX9 24 ((zcl 9).2.1 7).1 ((zcl 9).2.1 7).2.1 ((zcl 9).2.1 7).2.2.1 ∈ zG := zGt1 45 (by decide +kernel) rfl
def mkX9_init (x : Nat) (M : ZM) : ZM := ptI (ptR (nw (ptR (nw (ptR (nw (ptR (nw (M) (x + 1)) x 0 (x + 1)) (x + 2)) x 1 (x + 2)) (x + 3)) x 2 (x + 3)) (x + 4)) x 3 (x + 4)) x 7 (-1)
set_option maxRecDepth 20000 in
set_option maxHeartbeats 4000000 in
theorem ct_X9_init {M : ZM} {V1 : List Nat} {b x : Nat} (hv : AVx M V1 b (x + 1)) (hbx : b ≤ x) (hf : FRx V1 b (x + 1 + 4)) (h1000 : x + 1 + 4 ≤ 1000) (hS : zS x = (1, 9) ∧ zS (x + 1) = (2, 400) ∧ zS (x + 2) = (2, 401) ∧ zS (x + 3) = (2, 401) ∧ zS (x + 4) = (2, 401)) : zMt yX9_init cX9_init 1 none 1 4 1603 [.ref x] M none (mkX9_init x M) ∧ AVx (mkX9_init x M) V1 b (x + 1 + 4) := by
  have v0 := hv
  have v1 := AV_nw v0
  have v2 := AV_pt (a := x) (k := 0) v1 (AV_in (z := (x + 1)) v1 (by omega) (by omega))
  have v3 := AV_nw v2
  have v4 := AV_pt (a := x) (k := 1) v3 (AV_in (z := (x + 2)) v3 (by omega) (by omega))
  have v5 := AV_nw v4
  have v6 := AV_pt (a := x) (k := 2) v5 (AV_in (z := (x + 3)) v5 (by omega) (by omega))
  have v7 := AV_nw v6
  have v8 := AV_pt (a := x) (k := 3) v7 (AV_in (z := (x + 4)) v7 (by omega) (by omega))
  have v9 := AV_pi (a := x) (k := 7) (v := (-1)) v8
  refine ⟨?_, v9⟩
  refine zMt_of (by decide +kernel) rfl (Nat.le_of_ble_eq_true rfl) ?_
  show ZW _ _ _ _ _ _ _ _ _ 0 0 0 [some (.ref x)] [] M none _
  refine ZW_sm (pc' := 1) (ls' := [some (.ref x)]) (st' := [.ref x]) (s_aload_n rfl (dk_X9_init (0, .aload_n 0, 1) (List.mem_of_getElem? (i := 0) rfl))) (fun _ => rfl) ?_
  refine Z_obj cm_RX9_3 cb_oi cb_oc (by decide) (dk_X9_init (1, .invokespecial 3, 3) (List.mem_of_getElem? (i := 1) rfl)) ?_
  refine ZW_sm (pc' := 5) (ls' := [some (.ref x)]) (st' := [.ref x]) (s_aload_n rfl (dk_X9_init (4, .aload_n 0, 1) (List.mem_of_getElem? (i := 2) rfl))) (fun _ => rfl) ?_
  refine ZW_sm (pc' := 8) (ls' := [some (.ref x)]) (st' := [.int 400, .ref x]) (s_sipush (v := 400) (by decide) (dk_X9_init (5, .sipush 400, 3) (List.mem_of_getElem? (i := 3) rfl))) (fun _ => rfl) ?_
  refine Z_nwI (a := (x + 1)) (n := 400) hS.2.1 (by decide) (by decide) (by decide) (AV_fr v0 hf (by omega) (by omega)) (AV_fr v0 hf (by omega) (by omega)) (by omega) (AV_cl v0) ⟨by omega, trivial⟩ ⟨by omega, trivial⟩ cb_ai ⟨by decide, by decide⟩ (dk_X9_init (8, .newarray .int, 2) (List.mem_of_getElem? (i := 4) rfl)) ?_
  refine Z_ptR (AV_in v1 (by omega) (by omega)) hS.1 (by decide) (by decide) rfl (Or.inr ⟨rfl, rfl, rfl⟩) (fun _ => rfl) (fun _ => rfl) cf_RX9_11 (dk_X9_init (10, .putfield 11, 3) (List.mem_of_getElem? (i := 5) rfl)) ?_
  refine ZW_sm (pc' := 14) (ls' := [some (.ref x)]) (st' := [.ref x]) (s_aload_n rfl (dk_X9_init (13, .aload_n 0, 1) (List.mem_of_getElem? (i := 6) rfl))) (fun _ => rfl) ?_
  refine ZW_sm (pc' := 17) (ls' := [some (.ref x)]) (st' := [.int 401, .ref x]) (s_sipush (v := 401) (by decide) (dk_X9_init (14, .sipush 401, 3) (List.mem_of_getElem? (i := 7) rfl))) (fun _ => rfl) ?_
  refine Z_nwI (a := (x + 2)) (n := 401) hS.2.2.1 (by decide) (by decide) (by decide) (AV_fr v2 hf (by omega) (by omega)) (AV_fr v0 hf (by omega) (by omega)) (by omega) (AV_cl v2) ⟨by omega, trivial⟩ ⟨by omega, trivial⟩ cb_ai ⟨by decide, by decide⟩ (dk_X9_init (17, .newarray .int, 2) (List.mem_of_getElem? (i := 8) rfl)) ?_
  refine Z_ptR (AV_in v3 (by omega) (by omega)) hS.1 (by decide) (by decide) rfl (Or.inr ⟨rfl, rfl, rfl⟩) (fun _ => rfl) (fun _ => rfl) cf_RX9_15 (dk_X9_init (19, .putfield 15, 3) (List.mem_of_getElem? (i := 9) rfl)) ?_
  refine ZW_sm (pc' := 23) (ls' := [some (.ref x)]) (st' := [.ref x]) (s_aload_n rfl (dk_X9_init (22, .aload_n 0, 1) (List.mem_of_getElem? (i := 10) rfl))) (fun _ => rfl) ?_
  refine ZW_sm (pc' := 26) (ls' := [some (.ref x)]) (st' := [.int 401, .ref x]) (s_sipush (v := 401) (by decide) (dk_X9_init (23, .sipush 401, 3) (List.mem_of_getElem? (i := 11) rfl))) (fun _ => rfl) ?_
  refine Z_nwI (a := (x + 3)) (n := 401) hS.2.2.2.1 (by decide) (by decide) (by decide) (AV_fr v4 hf (by omega) (by omega)) (AV_fr v0 hf (by omega) (by omega)) (by omega) (AV_cl v4) ⟨by omega, trivial⟩ ⟨by omega, trivial⟩ cb_ai ⟨by decide, by decide⟩ (dk_X9_init (26, .newarray .int, 2) (List.mem_of_getElem? (i := 12) rfl)) ?_
  refine Z_ptR (AV_in v5 (by omega) (by omega)) hS.1 (by decide) (by decide) rfl (Or.inr ⟨rfl, rfl, rfl⟩) (fun _ => rfl) (fun _ => rfl) cf_RX9_18 (dk_X9_init (28, .putfield 18, 3) (List.mem_of_getElem? (i := 13) rfl)) ?_
  refine ZW_sm (pc' := 32) (ls' := [some (.ref x)]) (st' := [.ref x]) (s_aload_n rfl (dk_X9_init (31, .aload_n 0, 1) (List.mem_of_getElem? (i := 14) rfl))) (fun _ => rfl) ?_
  refine ZW_sm (pc' := 35) (ls' := [some (.ref x)]) (st' := [.int 401, .ref x]) (s_sipush (v := 401) (by decide) (dk_X9_init (32, .sipush 401, 3) (List.mem_of_getElem? (i := 15) rfl))) (fun _ => rfl) ?_
  refine Z_nwI (a := (x + 4)) (n := 401) hS.2.2.2.2 (by decide) (by decide) (by decide) (AV_fr v6 hf (by omega) (by omega)) (AV_fr v0 hf (by omega) (by omega)) (by omega) (AV_cl v6) ⟨by omega, trivial⟩ ⟨by omega, trivial⟩ cb_ai ⟨by decide, by decide⟩ (dk_X9_init (35, .newarray .int, 2) (List.mem_of_getElem? (i := 16) rfl)) ?_
  refine Z_ptR (AV_in v7 (by omega) (by omega)) hS.1 (by decide) (by decide) rfl (Or.inr ⟨rfl, rfl, rfl⟩) (fun _ => rfl) (fun _ => rfl) cf_RX9_21 (dk_X9_init (37, .putfield 21, 3) (List.mem_of_getElem? (i := 17) rfl)) ?_
  refine ZW_sm (pc' := 41) (ls' := [some (.ref x)]) (st' := [.ref x]) (s_aload_n rfl (dk_X9_init (40, .aload_n 0, 1) (List.mem_of_getElem? (i := 18) rfl))) (fun _ => rfl) ?_
  refine ZW_sm (pc' := 42) (ls' := [some (.ref x)]) (st' := [.int (-1), .ref x]) (s_iconst (v := (-1)) (by decide) (dk_X9_init (41, .iconst (-1), 1) (List.mem_of_getElem? (i := 19) rfl))) (fun _ => rfl) ?_
  refine Z_ptI (AV_in v8 (by omega) (by omega)) hS.1 (by decide) (by decide) rfl (Or.inl rfl) rfl rfl cf_RX9_24 (dk_X9_init (42, .putfield 24, 3) (List.mem_of_getElem? (i := 20) rfl)) ?_
  exact ZW_rt (s_vret rfl rfl rfl (dk_X9_init (45, .return_, 1) (List.mem_of_getElem? (i := 21) rfl))) (fun _ => rfl)
def dl_X3_init : List (Nat × Instr × Nat) := [(0, .aload_n 0, 1), (1, .invokespecial 3, 3), (4, .aload_n 0, 1), (5, .bipush 70, 2), (7, .newarray .int, 2), (9, .putfield 11, 3), (12, .aload_n 0, 1), (13, .bipush 50, 2), (15, .putfield 15, 3), (18, .aload_n 0, 1), (19, .bipush (-10), 2), (21, .putfield 19, 3), (24, .aload_n 0, 1), (25, .iconst (-1), 1), (26, .putfield 22, 3), (29, .aload_n 0, 1), (30, .iload_n 1, 1), (31, .putfield 25, 3), (34, .return_, 1)]
set_option maxRecDepth 20000 in
theorem dk_X3_init : ∀ q ∈ dl_X3_init, decode cX3_init q.1 = .ok q.2 := by decide +kernel
theorem cm_RX3_3 : Cond.methodLink RX3 3 Lib.objectInit ∈ zG := zGt1 76 (by decide +kernel) rfl
theorem cf_RX3_11 : Cond.fieldLink RX3 11 ((zcl 3).2.1 1).1 ((zcl 3).2.1 1).2.1 ((zcl 3).2.1 1).2.2.1 ∈ zG := zGt1 80 (by decide +kernel) rfl
theorem cf_RX3_15 : Cond.fieldLink RX3 15 ((zcl 3).2.1 4).1 ((zcl 3).2.1 4).2.1 ((zcl 3).2.1 4).2.2.1 ∈ zG := zGt1 87 (by decide +kernel) rfl
theorem cf_RX3_19 : Cond.fieldLink RX3 19 ((zcl 3).2.1 6).1 ((zcl 3).2.1 6).2.1 ((zcl 3).2.1 6).2.2.1 ∈ zG := zGt1 94 (by decide +kernel) rfl
theorem cf_RX3_22 : Cond.fieldLink RX3 22 ((zcl 3).2.1 7).1 ((zcl 3).2.1 7).2.1 ((zcl 3).2.1 7).2.2.1 ∈ zG := zGt1 97 (by decide +kernel) rfl
theorem cf_RX3_25 : Cond.fieldLink RX3 25 ((zcl 3).2.1 0).1 ((zcl 3).2.1 0).2.1 ((zcl 3).2.1 0).2.2.1 ∈ zG := zGt1 77 (by decide +kernel) rfl
def mkX3_init (x : Nat) (w : Int32) (M : ZM) : ZM := ptI (ptI (ptI (ptI (ptR (nw (M) (x + 1)) x 1 (x + 1)) x 4 50) x 6 (-10)) x 7 (-1)) x 0 w
set_option maxRecDepth 20000 in
set_option maxHeartbeats 4000000 in
theorem ct_X3_init {w : Int32} {M : ZM} {V1 : List Nat} {b x : Nat} (hw : w = 0 ∨ w = 1) (hv : AVx M V1 b (x + 1)) (hbx : b ≤ x) (hf : FRx V1 b (x + 1 + 1)) (h1000 : x + 1 + 1 ≤ 1000) (hS : zS x = (1, 3) ∧ zS (x + 1) = (2, 70)) : zMt yX3_init cX3_init 2 none 1 1 70 [.ref x, .int w] M none (mkX3_init x w M) ∧ AVx (mkX3_init x w M) V1 b (x + 1 + 1) := by
  have v0 := hv
  have v1 := AV_nw v0
  have v2 := AV_pt (a := x) (k := 1) v1 (AV_in (z := (x + 1)) v1 (by omega) (by omega))
  have v3 := AV_pi (a := x) (k := 4) (v := 50) v2
  have v4 := AV_pi (a := x) (k := 6) (v := (-10)) v3
  have v5 := AV_pi (a := x) (k := 7) (v := (-1)) v4
  have v6 := AV_pi (a := x) (k := 0) (v := w) v5
  refine ⟨?_, v6⟩
  refine zMt_of (by decide +kernel) rfl (Nat.le_of_ble_eq_true rfl) ?_
  show ZW _ _ _ _ _ _ _ _ _ 0 0 0 [some (.ref x), some (.int w)] [] M none _
  refine ZW_sm (pc' := 1) (ls' := [some (.ref x), some (.int w)]) (st' := [.ref x]) (s_aload_n rfl (dk_X3_init (0, .aload_n 0, 1) (List.mem_of_getElem? (i := 0) rfl))) (fun _ => rfl) ?_
  refine Z_obj cm_RX3_3 cb_oi cb_oc (by decide) (dk_X3_init (1, .invokespecial 3, 3) (List.mem_of_getElem? (i := 1) rfl)) ?_
  refine ZW_sm (pc' := 5) (ls' := [some (.ref x), some (.int w)]) (st' := [.ref x]) (s_aload_n rfl (dk_X3_init (4, .aload_n 0, 1) (List.mem_of_getElem? (i := 2) rfl))) (fun _ => rfl) ?_
  refine ZW_sm (pc' := 7) (ls' := [some (.ref x), some (.int w)]) (st' := [.int 70, .ref x]) (s_bipush (v := 70) (by decide) (dk_X3_init (5, .bipush 70, 2) (List.mem_of_getElem? (i := 3) rfl))) (fun _ => rfl) ?_
  refine Z_nwI (a := (x + 1)) (n := 70) hS.2 (by decide) (by decide) (by decide) (AV_fr v0 hf (by omega) (by omega)) (AV_fr v0 hf (by omega) (by omega)) (by omega) (AV_cl v0) ⟨by omega, trivial⟩ ⟨by omega, trivial⟩ cb_ai ⟨by decide, by decide⟩ (dk_X3_init (7, .newarray .int, 2) (List.mem_of_getElem? (i := 4) rfl)) ?_
  refine Z_ptR (AV_in v1 (by omega) (by omega)) hS.1 (by decide) (by decide) rfl (Or.inr ⟨rfl, rfl, rfl⟩) (fun _ => rfl) (fun _ => rfl) cf_RX3_11 (dk_X3_init (9, .putfield 11, 3) (List.mem_of_getElem? (i := 5) rfl)) ?_
  refine ZW_sm (pc' := 13) (ls' := [some (.ref x), some (.int w)]) (st' := [.ref x]) (s_aload_n rfl (dk_X3_init (12, .aload_n 0, 1) (List.mem_of_getElem? (i := 6) rfl))) (fun _ => rfl) ?_
  refine ZW_sm (pc' := 15) (ls' := [some (.ref x), some (.int w)]) (st' := [.int 50, .ref x]) (s_bipush (v := 50) (by decide) (dk_X3_init (13, .bipush 50, 2) (List.mem_of_getElem? (i := 7) rfl))) (fun _ => rfl) ?_
  refine Z_ptI (AV_in v2 (by omega) (by omega)) hS.1 (by decide) (by decide) rfl (Or.inl rfl) rfl rfl cf_RX3_15 (dk_X3_init (15, .putfield 15, 3) (List.mem_of_getElem? (i := 8) rfl)) ?_
  refine ZW_sm (pc' := 19) (ls' := [some (.ref x), some (.int w)]) (st' := [.ref x]) (s_aload_n rfl (dk_X3_init (18, .aload_n 0, 1) (List.mem_of_getElem? (i := 9) rfl))) (fun _ => rfl) ?_
  refine ZW_sm (pc' := 21) (ls' := [some (.ref x), some (.int w)]) (st' := [.int (-10), .ref x]) (s_bipush (v := (-10)) (by decide) (dk_X3_init (19, .bipush (-10), 2) (List.mem_of_getElem? (i := 10) rfl))) (fun _ => rfl) ?_
  refine Z_ptI (AV_in v3 (by omega) (by omega)) hS.1 (by decide) (by decide) rfl (Or.inl rfl) rfl rfl cf_RX3_19 (dk_X3_init (21, .putfield 19, 3) (List.mem_of_getElem? (i := 11) rfl)) ?_
  refine ZW_sm (pc' := 25) (ls' := [some (.ref x), some (.int w)]) (st' := [.ref x]) (s_aload_n rfl (dk_X3_init (24, .aload_n 0, 1) (List.mem_of_getElem? (i := 12) rfl))) (fun _ => rfl) ?_
  refine ZW_sm (pc' := 26) (ls' := [some (.ref x), some (.int w)]) (st' := [.int (-1), .ref x]) (s_iconst (v := (-1)) (by decide) (dk_X3_init (25, .iconst (-1), 1) (List.mem_of_getElem? (i := 13) rfl))) (fun _ => rfl) ?_
  refine Z_ptI (AV_in v4 (by omega) (by omega)) hS.1 (by decide) (by decide) rfl (Or.inl rfl) rfl rfl cf_RX3_22 (dk_X3_init (26, .putfield 22, 3) (List.mem_of_getElem? (i := 14) rfl)) ?_
  refine ZW_sm (pc' := 30) (ls' := [some (.ref x), some (.int w)]) (st' := [.ref x]) (s_aload_n rfl (dk_X3_init (29, .aload_n 0, 1) (List.mem_of_getElem? (i := 15) rfl))) (fun _ => rfl) ?_
  refine ZW_sm (pc' := 31) (ls' := [some (.ref x), some (.int w)]) (st' := [.int w, .ref x]) (s_iload_n rfl (dk_X3_init (30, .iload_n 1, 1) (List.mem_of_getElem? (i := 16) rfl))) (fun _ => rfl) ?_
  refine Z_ptI (AV_in v5 (by omega) (by omega)) hS.1 (by decide) (by decide) rfl (Or.inr ⟨rfl, rfl, rfl⟩) (by rcases hw with rfl | rfl <;> rfl) (by rcases hw with rfl | rfl <;> rfl) cf_RX3_25 (dk_X3_init (31, .putfield 25, 3) (List.mem_of_getElem? (i := 17) rfl)) ?_
  exact ZW_rt (s_vret rfl rfl rfl (dk_X3_init (34, .return_, 1) (List.mem_of_getElem? (i := 18) rfl))) (fun _ => rfl)
def dl_X4_init : List (Nat × Instr × Nat) := [(0, .aload_n 0, 1), (1, .invokespecial 3, 3), (4, .aload_n 0, 1), (5, .bipush 16, 2), (7, .newarray .int, 2), (9, .putfield 11, 3), (12, .aload_n 0, 1), (13, .bipush 16, 2), (15, .newarray .int, 2), (17, .putfield 15, 3), (20, .aload_n 0, 1), (21, .bipush 16, 2), (23, .newarray .int, 2), (25, .putfield 18, 3), (28, .aload_n 0, 1), (29, .bipush 16, 2), (31, .newarray .int, 2), (33, .putfield 21, 3), (36, .aload_n 0, 1), (37, .sipush 400, 3), (40, .newarray .int, 2), (42, .putfield 24, 3), (45, .aload_n 0, 1), (46, .bipush 32, 2), (48, .newarray .int, 2), (50, .putfield 27, 3), (53, .aload_n 0, 1), (54, .bipush 9, 2), (56, .newarray .int, 2), (58, .putfield 30, 3), (61, .return_, 1)]
set_option maxRecDepth 20000 in
theorem dk_X4_init : ∀ q ∈ dl_X4_init, decode cX4_init q.1 = .ok q.2 := by decide +kernel
theorem cm_RX4_3 : Cond.methodLink RX4 3 Lib.objectInit ∈ zG := zGt1 149 (by decide +kernel) rfl
theorem cf_RX4_11 : Cond.fieldLink RX4 11 ((zcl 4).2.1 0).1 ((zcl 4).2.1 0).2.1 ((zcl 4).2.1 0).2.2.1 ∈ zG := zGt1 150 (by decide +kernel) rfl
theorem cf_RX4_15 : Cond.fieldLink RX4 15 ((zcl 4).2.1 1).1 ((zcl 4).2.1 1).2.1 ((zcl 4).2.1 1).2.2.1 ∈ zG := zGt1 151 (by decide +kernel) rfl
theorem cf_RX4_18 : Cond.fieldLink RX4 18 ((zcl 4).2.1 2).1 ((zcl 4).2.1 2).2.1 ((zcl 4).2.1 2).2.2.1 ∈ zG := zGt1 152 (by decide +kernel) rfl
theorem cf_RX4_21 : Cond.fieldLink RX4 21 ((zcl 4).2.1 3).1 ((zcl 4).2.1 3).2.1 ((zcl 4).2.1 3).2.2.1 ∈ zG := zGt1 153 (by decide +kernel) rfl
theorem cf_RX4_24 : Cond.fieldLink RX4 24 ((zcl 4).2.1 4).1 ((zcl 4).2.1 4).2.1 ((zcl 4).2.1 4).2.2.1 ∈ zG := zGt1 154 (by decide +kernel) rfl
theorem cf_RX4_27 : Cond.fieldLink RX4 27 ((zcl 4).2.1 5).1 ((zcl 4).2.1 5).2.1 ((zcl 4).2.1 5).2.2.1 ∈ zG := zGt1 155 (by decide +kernel) rfl
theorem cf_RX4_30 : Cond.fieldLink RX4 30 ((zcl 4).2.1 6).1 ((zcl 4).2.1 6).2.1 ((zcl 4).2.1 6).2.2.1 ∈ zG := zGt1 156 (by decide +kernel) rfl
def mkX4_init (x : Nat) (M : ZM) : ZM := ptR (nw (ptR (nw (ptR (nw (ptR (nw (ptR (nw (ptR (nw (ptR (nw (M) (x + 1)) x 0 (x + 1)) (x + 2)) x 1 (x + 2)) (x + 3)) x 2 (x + 3)) (x + 4)) x 3 (x + 4)) (x + 5)) x 4 (x + 5)) (x + 6)) x 5 (x + 6)) (x + 7)) x 6 (x + 7)
set_option maxRecDepth 20000 in
set_option maxHeartbeats 4000000 in
theorem ct_X4_init {M : ZM} {V1 : List Nat} {b x : Nat} (hv : AVx M V1 b (x + 1)) (hbx : b ≤ x) (hf : FRx V1 b (x + 1 + 7)) (h1000 : x + 1 + 7 ≤ 1000) (hS : zS x = (1, 4) ∧ zS (x + 1) = (2, 16) ∧ zS (x + 2) = (2, 16) ∧ zS (x + 3) = (2, 16) ∧ zS (x + 4) = (2, 16) ∧ zS (x + 5) = (2, 400) ∧ zS (x + 6) = (2, 32) ∧ zS (x + 7) = (2, 9)) : zMt yX4_init cX4_init 1 none 1 7 505 [.ref x] M none (mkX4_init x M) ∧ AVx (mkX4_init x M) V1 b (x + 1 + 7) := by
  have v0 := hv
  have v1 := AV_nw v0
  have v2 := AV_pt (a := x) (k := 0) v1 (AV_in (z := (x + 1)) v1 (by omega) (by omega))
  have v3 := AV_nw v2
  have v4 := AV_pt (a := x) (k := 1) v3 (AV_in (z := (x + 2)) v3 (by omega) (by omega))
  have v5 := AV_nw v4
  have v6 := AV_pt (a := x) (k := 2) v5 (AV_in (z := (x + 3)) v5 (by omega) (by omega))
  have v7 := AV_nw v6
  have v8 := AV_pt (a := x) (k := 3) v7 (AV_in (z := (x + 4)) v7 (by omega) (by omega))
  have v9 := AV_nw v8
  have v10 := AV_pt (a := x) (k := 4) v9 (AV_in (z := (x + 5)) v9 (by omega) (by omega))
  have v11 := AV_nw v10
  have v12 := AV_pt (a := x) (k := 5) v11 (AV_in (z := (x + 6)) v11 (by omega) (by omega))
  have v13 := AV_nw v12
  have v14 := AV_pt (a := x) (k := 6) v13 (AV_in (z := (x + 7)) v13 (by omega) (by omega))
  refine ⟨?_, v14⟩
  refine zMt_of (by decide +kernel) rfl (Nat.le_of_ble_eq_true rfl) ?_
  show ZW _ _ _ _ _ _ _ _ _ 0 0 0 [some (.ref x)] [] M none _
  refine ZW_sm (pc' := 1) (ls' := [some (.ref x)]) (st' := [.ref x]) (s_aload_n rfl (dk_X4_init (0, .aload_n 0, 1) (List.mem_of_getElem? (i := 0) rfl))) (fun _ => rfl) ?_
  refine Z_obj cm_RX4_3 cb_oi cb_oc (by decide) (dk_X4_init (1, .invokespecial 3, 3) (List.mem_of_getElem? (i := 1) rfl)) ?_
  refine ZW_sm (pc' := 5) (ls' := [some (.ref x)]) (st' := [.ref x]) (s_aload_n rfl (dk_X4_init (4, .aload_n 0, 1) (List.mem_of_getElem? (i := 2) rfl))) (fun _ => rfl) ?_
  refine ZW_sm (pc' := 7) (ls' := [some (.ref x)]) (st' := [.int 16, .ref x]) (s_bipush (v := 16) (by decide) (dk_X4_init (5, .bipush 16, 2) (List.mem_of_getElem? (i := 3) rfl))) (fun _ => rfl) ?_
  refine Z_nwI (a := (x + 1)) (n := 16) hS.2.1 (by decide) (by decide) (by decide) (AV_fr v0 hf (by omega) (by omega)) (AV_fr v0 hf (by omega) (by omega)) (by omega) (AV_cl v0) ⟨by omega, trivial⟩ ⟨by omega, trivial⟩ cb_ai ⟨by decide, by decide⟩ (dk_X4_init (7, .newarray .int, 2) (List.mem_of_getElem? (i := 4) rfl)) ?_
  refine Z_ptR (AV_in v1 (by omega) (by omega)) hS.1 (by decide) (by decide) rfl (Or.inr ⟨rfl, rfl, rfl⟩) (fun _ => rfl) (fun _ => rfl) cf_RX4_11 (dk_X4_init (9, .putfield 11, 3) (List.mem_of_getElem? (i := 5) rfl)) ?_
  refine ZW_sm (pc' := 13) (ls' := [some (.ref x)]) (st' := [.ref x]) (s_aload_n rfl (dk_X4_init (12, .aload_n 0, 1) (List.mem_of_getElem? (i := 6) rfl))) (fun _ => rfl) ?_
  refine ZW_sm (pc' := 15) (ls' := [some (.ref x)]) (st' := [.int 16, .ref x]) (s_bipush (v := 16) (by decide) (dk_X4_init (13, .bipush 16, 2) (List.mem_of_getElem? (i := 7) rfl))) (fun _ => rfl) ?_
  refine Z_nwI (a := (x + 2)) (n := 16) hS.2.2.1 (by decide) (by decide) (by decide) (AV_fr v2 hf (by omega) (by omega)) (AV_fr v0 hf (by omega) (by omega)) (by omega) (AV_cl v2) ⟨by omega, trivial⟩ ⟨by omega, trivial⟩ cb_ai ⟨by decide, by decide⟩ (dk_X4_init (15, .newarray .int, 2) (List.mem_of_getElem? (i := 8) rfl)) ?_
  refine Z_ptR (AV_in v3 (by omega) (by omega)) hS.1 (by decide) (by decide) rfl (Or.inr ⟨rfl, rfl, rfl⟩) (fun _ => rfl) (fun _ => rfl) cf_RX4_15 (dk_X4_init (17, .putfield 15, 3) (List.mem_of_getElem? (i := 9) rfl)) ?_
  refine ZW_sm (pc' := 21) (ls' := [some (.ref x)]) (st' := [.ref x]) (s_aload_n rfl (dk_X4_init (20, .aload_n 0, 1) (List.mem_of_getElem? (i := 10) rfl))) (fun _ => rfl) ?_
  refine ZW_sm (pc' := 23) (ls' := [some (.ref x)]) (st' := [.int 16, .ref x]) (s_bipush (v := 16) (by decide) (dk_X4_init (21, .bipush 16, 2) (List.mem_of_getElem? (i := 11) rfl))) (fun _ => rfl) ?_
  refine Z_nwI (a := (x + 3)) (n := 16) hS.2.2.2.1 (by decide) (by decide) (by decide) (AV_fr v4 hf (by omega) (by omega)) (AV_fr v0 hf (by omega) (by omega)) (by omega) (AV_cl v4) ⟨by omega, trivial⟩ ⟨by omega, trivial⟩ cb_ai ⟨by decide, by decide⟩ (dk_X4_init (23, .newarray .int, 2) (List.mem_of_getElem? (i := 12) rfl)) ?_
  refine Z_ptR (AV_in v5 (by omega) (by omega)) hS.1 (by decide) (by decide) rfl (Or.inr ⟨rfl, rfl, rfl⟩) (fun _ => rfl) (fun _ => rfl) cf_RX4_18 (dk_X4_init (25, .putfield 18, 3) (List.mem_of_getElem? (i := 13) rfl)) ?_
  refine ZW_sm (pc' := 29) (ls' := [some (.ref x)]) (st' := [.ref x]) (s_aload_n rfl (dk_X4_init (28, .aload_n 0, 1) (List.mem_of_getElem? (i := 14) rfl))) (fun _ => rfl) ?_
  refine ZW_sm (pc' := 31) (ls' := [some (.ref x)]) (st' := [.int 16, .ref x]) (s_bipush (v := 16) (by decide) (dk_X4_init (29, .bipush 16, 2) (List.mem_of_getElem? (i := 15) rfl))) (fun _ => rfl) ?_
  refine Z_nwI (a := (x + 4)) (n := 16) hS.2.2.2.2.1 (by decide) (by decide) (by decide) (AV_fr v6 hf (by omega) (by omega)) (AV_fr v0 hf (by omega) (by omega)) (by omega) (AV_cl v6) ⟨by omega, trivial⟩ ⟨by omega, trivial⟩ cb_ai ⟨by decide, by decide⟩ (dk_X4_init (31, .newarray .int, 2) (List.mem_of_getElem? (i := 16) rfl)) ?_
  refine Z_ptR (AV_in v7 (by omega) (by omega)) hS.1 (by decide) (by decide) rfl (Or.inr ⟨rfl, rfl, rfl⟩) (fun _ => rfl) (fun _ => rfl) cf_RX4_21 (dk_X4_init (33, .putfield 21, 3) (List.mem_of_getElem? (i := 17) rfl)) ?_
  refine ZW_sm (pc' := 37) (ls' := [some (.ref x)]) (st' := [.ref x]) (s_aload_n rfl (dk_X4_init (36, .aload_n 0, 1) (List.mem_of_getElem? (i := 18) rfl))) (fun _ => rfl) ?_
  refine ZW_sm (pc' := 40) (ls' := [some (.ref x)]) (st' := [.int 400, .ref x]) (s_sipush (v := 400) (by decide) (dk_X4_init (37, .sipush 400, 3) (List.mem_of_getElem? (i := 19) rfl))) (fun _ => rfl) ?_
  refine Z_nwI (a := (x + 5)) (n := 400) hS.2.2.2.2.2.1 (by decide) (by decide) (by decide) (AV_fr v8 hf (by omega) (by omega)) (AV_fr v0 hf (by omega) (by omega)) (by omega) (AV_cl v8) ⟨by omega, trivial⟩ ⟨by omega, trivial⟩ cb_ai ⟨by decide, by decide⟩ (dk_X4_init (40, .newarray .int, 2) (List.mem_of_getElem? (i := 20) rfl)) ?_
  refine Z_ptR (AV_in v9 (by omega) (by omega)) hS.1 (by decide) (by decide) rfl (Or.inr ⟨rfl, rfl, rfl⟩) (fun _ => rfl) (fun _ => rfl) cf_RX4_24 (dk_X4_init (42, .putfield 24, 3) (List.mem_of_getElem? (i := 21) rfl)) ?_
  refine ZW_sm (pc' := 46) (ls' := [some (.ref x)]) (st' := [.ref x]) (s_aload_n rfl (dk_X4_init (45, .aload_n 0, 1) (List.mem_of_getElem? (i := 22) rfl))) (fun _ => rfl) ?_
  refine ZW_sm (pc' := 48) (ls' := [some (.ref x)]) (st' := [.int 32, .ref x]) (s_bipush (v := 32) (by decide) (dk_X4_init (46, .bipush 32, 2) (List.mem_of_getElem? (i := 23) rfl))) (fun _ => rfl) ?_
  refine Z_nwI (a := (x + 6)) (n := 32) hS.2.2.2.2.2.2.1 (by decide) (by decide) (by decide) (AV_fr v10 hf (by omega) (by omega)) (AV_fr v0 hf (by omega) (by omega)) (by omega) (AV_cl v10) ⟨by omega, trivial⟩ ⟨by omega, trivial⟩ cb_ai ⟨by decide, by decide⟩ (dk_X4_init (48, .newarray .int, 2) (List.mem_of_getElem? (i := 24) rfl)) ?_
  refine Z_ptR (AV_in v11 (by omega) (by omega)) hS.1 (by decide) (by decide) rfl (Or.inr ⟨rfl, rfl, rfl⟩) (fun _ => rfl) (fun _ => rfl) cf_RX4_27 (dk_X4_init (50, .putfield 27, 3) (List.mem_of_getElem? (i := 25) rfl)) ?_
  refine ZW_sm (pc' := 54) (ls' := [some (.ref x)]) (st' := [.ref x]) (s_aload_n rfl (dk_X4_init (53, .aload_n 0, 1) (List.mem_of_getElem? (i := 26) rfl))) (fun _ => rfl) ?_
  refine ZW_sm (pc' := 56) (ls' := [some (.ref x)]) (st' := [.int 9, .ref x]) (s_bipush (v := 9) (by decide) (dk_X4_init (54, .bipush 9, 2) (List.mem_of_getElem? (i := 27) rfl))) (fun _ => rfl) ?_
  refine Z_nwI (a := (x + 7)) (n := 9) hS.2.2.2.2.2.2.2 (by decide) (by decide) (by decide) (AV_fr v12 hf (by omega) (by omega)) (AV_fr v0 hf (by omega) (by omega)) (by omega) (AV_cl v12) ⟨by omega, trivial⟩ ⟨by omega, trivial⟩ cb_ai ⟨by decide, by decide⟩ (dk_X4_init (56, .newarray .int, 2) (List.mem_of_getElem? (i := 28) rfl)) ?_
  refine Z_ptR (AV_in v13 (by omega) (by omega)) hS.1 (by decide) (by decide) rfl (Or.inr ⟨rfl, rfl, rfl⟩) (fun _ => rfl) (fun _ => rfl) cf_RX4_30 (dk_X4_init (58, .putfield 30, 3) (List.mem_of_getElem? (i := 29) rfl)) ?_
  exact ZW_rt (s_vret rfl rfl rfl (dk_X4_init (61, .return_, 1) (List.mem_of_getElem? (i := 30) rfl))) (fun _ => rfl)
def dl_X7_init : List (Nat × Instr × Nat) := [(0, .aload_n 0, 1), (1, .invokespecial 5, 3), (4, .aload_n 0, 1), (5, .bipush 12, 2), (7, .newarray .int, 2), (9, .putfield 13, 3), (12, .aload_n 0, 1), (13, .bipush 12, 2), (15, .newarray .int, 2), (17, .putfield 17, 3), (20, .return_, 1)]
set_option maxRecDepth 20000 in
theorem dk_X7_init : ∀ q ∈ dl_X7_init, decode cX7_init q.1 = .ok q.2 := by decide +kernel
theorem cm_RX7_5 : Cond.methodLink RX7 5 Lib.objectInit ∈ zG := zGt1 184 (by decide +kernel) rfl
theorem cf_RX7_13 : Cond.fieldLink RX7 13 ((zcl 7).2.1 0).1 ((zcl 7).2.1 0).2.1 ((zcl 7).2.1 0).2.2.1 ∈ zG := zGt1 185 (by decide +kernel) rfl
theorem cf_RX7_17 : Cond.fieldLink RX7 17 ((zcl 7).2.1 1).1 ((zcl 7).2.1 1).2.1 ((zcl 7).2.1 1).2.2.1 ∈ zG := zGt1 186 (by decide +kernel) rfl
def mkX7_init (x : Nat) (M : ZM) : ZM := ptR (nw (ptR (nw (M) (x + 1)) x 0 (x + 1)) (x + 2)) x 1 (x + 2)
set_option maxRecDepth 20000 in
set_option maxHeartbeats 4000000 in
theorem ct_X7_init {M : ZM} {V1 : List Nat} {b x : Nat} (hv : AVx M V1 b (x + 1)) (hbx : b ≤ x) (hf : FRx V1 b (x + 1 + 2)) (h1000 : x + 1 + 2 ≤ 1000) (hS : zS x = (1, 7) ∧ zS (x + 1) = (2, 12) ∧ zS (x + 2) = (2, 12)) : zMt yX7_init cX7_init 1 none 1 2 24 [.ref x] M none (mkX7_init x M) ∧ AVx (mkX7_init x M) V1 b (x + 1 + 2) := by
  have v0 := hv
  have v1 := AV_nw v0
  have v2 := AV_pt (a := x) (k := 0) v1 (AV_in (z := (x + 1)) v1 (by omega) (by omega))
  have v3 := AV_nw v2
  have v4 := AV_pt (a := x) (k := 1) v3 (AV_in (z := (x + 2)) v3 (by omega) (by omega))
  refine ⟨?_, v4⟩
  refine zMt_of (by decide +kernel) rfl (Nat.le_of_ble_eq_true rfl) ?_
  show ZW _ _ _ _ _ _ _ _ _ 0 0 0 [some (.ref x)] [] M none _
  refine ZW_sm (pc' := 1) (ls' := [some (.ref x)]) (st' := [.ref x]) (s_aload_n rfl (dk_X7_init (0, .aload_n 0, 1) (List.mem_of_getElem? (i := 0) rfl))) (fun _ => rfl) ?_
  refine Z_obj cm_RX7_5 cb_oi cb_oc (by decide) (dk_X7_init (1, .invokespecial 5, 3) (List.mem_of_getElem? (i := 1) rfl)) ?_
  refine ZW_sm (pc' := 5) (ls' := [some (.ref x)]) (st' := [.ref x]) (s_aload_n rfl (dk_X7_init (4, .aload_n 0, 1) (List.mem_of_getElem? (i := 2) rfl))) (fun _ => rfl) ?_
  refine ZW_sm (pc' := 7) (ls' := [some (.ref x)]) (st' := [.int 12, .ref x]) (s_bipush (v := 12) (by decide) (dk_X7_init (5, .bipush 12, 2) (List.mem_of_getElem? (i := 3) rfl))) (fun _ => rfl) ?_
  refine Z_nwI (a := (x + 1)) (n := 12) hS.2.1 (by decide) (by decide) (by decide) (AV_fr v0 hf (by omega) (by omega)) (AV_fr v0 hf (by omega) (by omega)) (by omega) (AV_cl v0) ⟨by omega, trivial⟩ ⟨by omega, trivial⟩ cb_ai ⟨by decide, by decide⟩ (dk_X7_init (7, .newarray .int, 2) (List.mem_of_getElem? (i := 4) rfl)) ?_
  refine Z_ptR (AV_in v1 (by omega) (by omega)) hS.1 (by decide) (by decide) rfl (Or.inr ⟨rfl, rfl, rfl⟩) (fun _ => rfl) (fun _ => rfl) cf_RX7_13 (dk_X7_init (9, .putfield 13, 3) (List.mem_of_getElem? (i := 5) rfl)) ?_
  refine ZW_sm (pc' := 13) (ls' := [some (.ref x)]) (st' := [.ref x]) (s_aload_n rfl (dk_X7_init (12, .aload_n 0, 1) (List.mem_of_getElem? (i := 6) rfl))) (fun _ => rfl) ?_
  refine ZW_sm (pc' := 15) (ls' := [some (.ref x)]) (st' := [.int 12, .ref x]) (s_bipush (v := 12) (by decide) (dk_X7_init (13, .bipush 12, 2) (List.mem_of_getElem? (i := 7) rfl))) (fun _ => rfl) ?_
  refine Z_nwI (a := (x + 2)) (n := 12) hS.2.2 (by decide) (by decide) (by decide) (AV_fr v2 hf (by omega) (by omega)) (AV_fr v0 hf (by omega) (by omega)) (by omega) (AV_cl v2) ⟨by omega, trivial⟩ ⟨by omega, trivial⟩ cb_ai ⟨by decide, by decide⟩ (dk_X7_init (15, .newarray .int, 2) (List.mem_of_getElem? (i := 8) rfl)) ?_
  refine Z_ptR (AV_in v3 (by omega) (by omega)) hS.1 (by decide) (by decide) rfl (Or.inr ⟨rfl, rfl, rfl⟩) (fun _ => rfl) (fun _ => rfl) cf_RX7_17 (dk_X7_init (17, .putfield 17, 3) (List.mem_of_getElem? (i := 9) rfl)) ?_
  exact ZW_rt (s_vret rfl rfl rfl (dk_X7_init (20, .return_, 1) (List.mem_of_getElem? (i := 10) rfl))) (fun _ => rfl)
def dl_X0_init : List (Nat × Instr × Nat) := [(0, .aload_n 0, 1), (1, .invokespecial 5, 3), (4, .aload_n 0, 1), (5, .bipush 16, 2), (7, .newarray .int, 2), (9, .putfield 13, 3), (12, .aload_n 0, 1), (13, .bipush 16, 2), (15, .newarray .int, 2), (17, .putfield 17, 3), (20, .aload_n 0, 1), (21, .bipush 16, 2), (23, .newarray .int, 2), (25, .putfield 20, 3), (28, .aload_n 0, 1), (29, .bipush 16, 2), (31, .newarray .int, 2), (33, .putfield 23, 3), (36, .return_, 1)]
set_option maxRecDepth 20000 in
theorem dk_X0_init : ∀ q ∈ dl_X0_init, decode cX0_init q.1 = .ok q.2 := by decide +kernel
theorem cm_RX0_5 : Cond.methodLink RX0 5 Lib.objectInit ∈ zG := zGt1 204 (by decide +kernel) rfl
theorem cf_RX0_13 : Cond.fieldLink RX0 13 ((zcl 0).2.1 0).1 ((zcl 0).2.1 0).2.1 ((zcl 0).2.1 0).2.2.1 ∈ zG := zGt1 205 (by decide +kernel) rfl
theorem cf_RX0_17 : Cond.fieldLink RX0 17 ((zcl 0).2.1 1).1 ((zcl 0).2.1 1).2.1 ((zcl 0).2.1 1).2.2.1 ∈ zG := zGt1 207 (by decide +kernel) rfl
theorem cf_RX0_20 : Cond.fieldLink RX0 20 ((zcl 0).2.1 2).1 ((zcl 0).2.1 2).2.1 ((zcl 0).2.1 2).2.2.1 ∈ zG := zGt1 209 (by decide +kernel) rfl
theorem cf_RX0_23 : Cond.fieldLink RX0 23 ((zcl 0).2.1 3).1 ((zcl 0).2.1 3).2.1 ((zcl 0).2.1 3).2.2.1 ∈ zG := zGt1 211 (by decide +kernel) rfl
def mkX0_init (x : Nat) (M : ZM) : ZM := ptR (nw (ptR (nw (ptR (nw (ptR (nw (M) (x + 1)) x 0 (x + 1)) (x + 2)) x 1 (x + 2)) (x + 3)) x 2 (x + 3)) (x + 4)) x 3 (x + 4)
set_option maxRecDepth 20000 in
set_option maxHeartbeats 4000000 in
theorem ct_X0_init {M : ZM} {V1 : List Nat} {b x : Nat} (hv : AVx M V1 b (x + 1)) (hbx : b ≤ x) (hf : FRx V1 b (x + 1 + 4)) (h1000 : x + 1 + 4 ≤ 1000) (hS : zS x = (1, 0) ∧ zS (x + 1) = (2, 16) ∧ zS (x + 2) = (2, 16) ∧ zS (x + 3) = (2, 16) ∧ zS (x + 4) = (2, 16)) : zMt yX0_init cX0_init 1 none 1 4 64 [.ref x] M none (mkX0_init x M) ∧ AVx (mkX0_init x M) V1 b (x + 1 + 4) := by
  have v0 := hv
  have v1 := AV_nw v0
  have v2 := AV_pt (a := x) (k := 0) v1 (AV_in (z := (x + 1)) v1 (by omega) (by omega))
  have v3 := AV_nw v2
  have v4 := AV_pt (a := x) (k := 1) v3 (AV_in (z := (x + 2)) v3 (by omega) (by omega))
  have v5 := AV_nw v4
  have v6 := AV_pt (a := x) (k := 2) v5 (AV_in (z := (x + 3)) v5 (by omega) (by omega))
  have v7 := AV_nw v6
  have v8 := AV_pt (a := x) (k := 3) v7 (AV_in (z := (x + 4)) v7 (by omega) (by omega))
  refine ⟨?_, v8⟩
  refine zMt_of (by decide +kernel) rfl (Nat.le_of_ble_eq_true rfl) ?_
  show ZW _ _ _ _ _ _ _ _ _ 0 0 0 [some (.ref x)] [] M none _
  refine ZW_sm (pc' := 1) (ls' := [some (.ref x)]) (st' := [.ref x]) (s_aload_n rfl (dk_X0_init (0, .aload_n 0, 1) (List.mem_of_getElem? (i := 0) rfl))) (fun _ => rfl) ?_
  refine Z_obj cm_RX0_5 cb_oi cb_oc (by decide) (dk_X0_init (1, .invokespecial 5, 3) (List.mem_of_getElem? (i := 1) rfl)) ?_
  refine ZW_sm (pc' := 5) (ls' := [some (.ref x)]) (st' := [.ref x]) (s_aload_n rfl (dk_X0_init (4, .aload_n 0, 1) (List.mem_of_getElem? (i := 2) rfl))) (fun _ => rfl) ?_
  refine ZW_sm (pc' := 7) (ls' := [some (.ref x)]) (st' := [.int 16, .ref x]) (s_bipush (v := 16) (by decide) (dk_X0_init (5, .bipush 16, 2) (List.mem_of_getElem? (i := 3) rfl))) (fun _ => rfl) ?_
  refine Z_nwI (a := (x + 1)) (n := 16) hS.2.1 (by decide) (by decide) (by decide) (AV_fr v0 hf (by omega) (by omega)) (AV_fr v0 hf (by omega) (by omega)) (by omega) (AV_cl v0) ⟨by omega, trivial⟩ ⟨by omega, trivial⟩ cb_ai ⟨by decide, by decide⟩ (dk_X0_init (7, .newarray .int, 2) (List.mem_of_getElem? (i := 4) rfl)) ?_
  refine Z_ptR (AV_in v1 (by omega) (by omega)) hS.1 (by decide) (by decide) rfl (Or.inr ⟨rfl, rfl, rfl⟩) (fun _ => rfl) (fun _ => rfl) cf_RX0_13 (dk_X0_init (9, .putfield 13, 3) (List.mem_of_getElem? (i := 5) rfl)) ?_
  refine ZW_sm (pc' := 13) (ls' := [some (.ref x)]) (st' := [.ref x]) (s_aload_n rfl (dk_X0_init (12, .aload_n 0, 1) (List.mem_of_getElem? (i := 6) rfl))) (fun _ => rfl) ?_
  refine ZW_sm (pc' := 15) (ls' := [some (.ref x)]) (st' := [.int 16, .ref x]) (s_bipush (v := 16) (by decide) (dk_X0_init (13, .bipush 16, 2) (List.mem_of_getElem? (i := 7) rfl))) (fun _ => rfl) ?_
  refine Z_nwI (a := (x + 2)) (n := 16) hS.2.2.1 (by decide) (by decide) (by decide) (AV_fr v2 hf (by omega) (by omega)) (AV_fr v0 hf (by omega) (by omega)) (by omega) (AV_cl v2) ⟨by omega, trivial⟩ ⟨by omega, trivial⟩ cb_ai ⟨by decide, by decide⟩ (dk_X0_init (15, .newarray .int, 2) (List.mem_of_getElem? (i := 8) rfl)) ?_
  refine Z_ptR (AV_in v3 (by omega) (by omega)) hS.1 (by decide) (by decide) rfl (Or.inr ⟨rfl, rfl, rfl⟩) (fun _ => rfl) (fun _ => rfl) cf_RX0_17 (dk_X0_init (17, .putfield 17, 3) (List.mem_of_getElem? (i := 9) rfl)) ?_
  refine ZW_sm (pc' := 21) (ls' := [some (.ref x)]) (st' := [.ref x]) (s_aload_n rfl (dk_X0_init (20, .aload_n 0, 1) (List.mem_of_getElem? (i := 10) rfl))) (fun _ => rfl) ?_
  refine ZW_sm (pc' := 23) (ls' := [some (.ref x)]) (st' := [.int 16, .ref x]) (s_bipush (v := 16) (by decide) (dk_X0_init (21, .bipush 16, 2) (List.mem_of_getElem? (i := 11) rfl))) (fun _ => rfl) ?_
  refine Z_nwI (a := (x + 3)) (n := 16) hS.2.2.2.1 (by decide) (by decide) (by decide) (AV_fr v4 hf (by omega) (by omega)) (AV_fr v0 hf (by omega) (by omega)) (by omega) (AV_cl v4) ⟨by omega, trivial⟩ ⟨by omega, trivial⟩ cb_ai ⟨by decide, by decide⟩ (dk_X0_init (23, .newarray .int, 2) (List.mem_of_getElem? (i := 12) rfl)) ?_
  refine Z_ptR (AV_in v5 (by omega) (by omega)) hS.1 (by decide) (by decide) rfl (Or.inr ⟨rfl, rfl, rfl⟩) (fun _ => rfl) (fun _ => rfl) cf_RX0_20 (dk_X0_init (25, .putfield 20, 3) (List.mem_of_getElem? (i := 13) rfl)) ?_
  refine ZW_sm (pc' := 29) (ls' := [some (.ref x)]) (st' := [.ref x]) (s_aload_n rfl (dk_X0_init (28, .aload_n 0, 1) (List.mem_of_getElem? (i := 14) rfl))) (fun _ => rfl) ?_
  refine ZW_sm (pc' := 31) (ls' := [some (.ref x)]) (st' := [.int 16, .ref x]) (s_bipush (v := 16) (by decide) (dk_X0_init (29, .bipush 16, 2) (List.mem_of_getElem? (i := 15) rfl))) (fun _ => rfl) ?_
  refine Z_nwI (a := (x + 4)) (n := 16) hS.2.2.2.2 (by decide) (by decide) (by decide) (AV_fr v6 hf (by omega) (by omega)) (AV_fr v0 hf (by omega) (by omega)) (by omega) (AV_cl v6) ⟨by omega, trivial⟩ ⟨by omega, trivial⟩ cb_ai ⟨by decide, by decide⟩ (dk_X0_init (31, .newarray .int, 2) (List.mem_of_getElem? (i := 16) rfl)) ?_
  refine Z_ptR (AV_in v7 (by omega) (by omega)) hS.1 (by decide) (by decide) rfl (Or.inr ⟨rfl, rfl, rfl⟩) (fun _ => rfl) (fun _ => rfl) cf_RX0_23 (dk_X0_init (33, .putfield 23, 3) (List.mem_of_getElem? (i := 17) rfl)) ?_
  exact ZW_rt (s_vret rfl rfl rfl (dk_X0_init (36, .return_, 1) (List.mem_of_getElem? (i := 18) rfl))) (fun _ => rfl)
def dl_X1_init : List (Nat × Instr × Nat) := [(0, .aload_n 0, 1), (1, .invokespecial 3, 3), (4, .aload_n 0, 1), (5, .sipush 600, 3), (8, .newarray .int, 2), (10, .putfield 11, 3), (13, .return_, 1)]
set_option maxRecDepth 20000 in
theorem dk_X1_init : ∀ q ∈ dl_X1_init, decode cX1_init q.1 = .ok q.2 := by decide +kernel
theorem cm_RX1_3 : Cond.methodLink RX1 3 Lib.objectInit ∈ zG := zGt1 232 (by decide +kernel) rfl
theorem cf_RX1_11 : Cond.fieldLink RX1 11 ((zcl 1).2.1 0).1 ((zcl 1).2.1 0).2.1 ((zcl 1).2.1 0).2.2.1 ∈ zG := zGt1 233 (by decide +kernel) rfl
def mkX1_init (x : Nat) (M : ZM) : ZM := ptR (nw (M) (x + 1)) x 0 (x + 1)
set_option maxRecDepth 20000 in
set_option maxHeartbeats 4000000 in
theorem ct_X1_init {M : ZM} {V1 : List Nat} {b x : Nat} (hv : AVx M V1 b (x + 1)) (hbx : b ≤ x) (hf : FRx V1 b (x + 1 + 1)) (h1000 : x + 1 + 1 ≤ 1000) (hS : zS x = (1, 1) ∧ zS (x + 1) = (2, 600)) : zMt yX1_init cX1_init 1 none 1 1 600 [.ref x] M none (mkX1_init x M) ∧ AVx (mkX1_init x M) V1 b (x + 1 + 1) := by
  have v0 := hv
  have v1 := AV_nw v0
  have v2 := AV_pt (a := x) (k := 0) v1 (AV_in (z := (x + 1)) v1 (by omega) (by omega))
  refine ⟨?_, v2⟩
  refine zMt_of (by decide +kernel) rfl (Nat.le_of_ble_eq_true rfl) ?_
  show ZW _ _ _ _ _ _ _ _ _ 0 0 0 [some (.ref x)] [] M none _
  refine ZW_sm (pc' := 1) (ls' := [some (.ref x)]) (st' := [.ref x]) (s_aload_n rfl (dk_X1_init (0, .aload_n 0, 1) (List.mem_of_getElem? (i := 0) rfl))) (fun _ => rfl) ?_
  refine Z_obj cm_RX1_3 cb_oi cb_oc (by decide) (dk_X1_init (1, .invokespecial 3, 3) (List.mem_of_getElem? (i := 1) rfl)) ?_
  refine ZW_sm (pc' := 5) (ls' := [some (.ref x)]) (st' := [.ref x]) (s_aload_n rfl (dk_X1_init (4, .aload_n 0, 1) (List.mem_of_getElem? (i := 2) rfl))) (fun _ => rfl) ?_
  refine ZW_sm (pc' := 8) (ls' := [some (.ref x)]) (st' := [.int 600, .ref x]) (s_sipush (v := 600) (by decide) (dk_X1_init (5, .sipush 600, 3) (List.mem_of_getElem? (i := 3) rfl))) (fun _ => rfl) ?_
  refine Z_nwI (a := (x + 1)) (n := 600) hS.2 (by decide) (by decide) (by decide) (AV_fr v0 hf (by omega) (by omega)) (AV_fr v0 hf (by omega) (by omega)) (by omega) (AV_cl v0) ⟨by omega, trivial⟩ ⟨by omega, trivial⟩ cb_ai ⟨by decide, by decide⟩ (dk_X1_init (8, .newarray .int, 2) (List.mem_of_getElem? (i := 4) rfl)) ?_
  refine Z_ptR (AV_in v1 (by omega) (by omega)) hS.1 (by decide) (by decide) rfl (Or.inr ⟨rfl, rfl, rfl⟩) (fun _ => rfl) (fun _ => rfl) cf_RX1_11 (dk_X1_init (10, .putfield 11, 3) (List.mem_of_getElem? (i := 5) rfl)) ?_
  exact ZW_rt (s_vret rfl rfl rfl (dk_X1_init (13, .return_, 1) (List.mem_of_getElem? (i := 6) rfl))) (fun _ => rfl)
def dl_X5_init : List (Nat × Instr × Nat) := [(0, .aload_n 0, 1), (1, .invokespecial 7, 3), (4, .aload_n 0, 1), (5, .bipush 96, 2), (7, .newarray .int, 2), (9, .putfield 13, 3), (12, .aload_n 0, 1), (13, .sipush 960, 3), (16, .newarray .int, 2), (18, .putfield 17, 3), (21, .aload_n 0, 1), (22, .iconst 5, 1), (23, .newarray .int, 2), (25, .putfield 20, 3), (28, .aload_n 0, 1), (29, .iconst 5, 1), (30, .newarray .int, 2), (32, .putfield 23, 3), (35, .return_, 1)]
set_option maxRecDepth 20000 in
theorem dk_X5_init : ∀ q ∈ dl_X5_init, decode cX5_init q.1 = .ok q.2 := by decide +kernel
theorem cm_RX5_7 : Cond.methodLink RX5 7 Lib.objectInit ∈ zG := zGt2 2 (by decide +kernel) rfl
theorem cf_RX5_13 : Cond.fieldLink RX5 13 ((zcl 5).2.1 0).1 ((zcl 5).2.1 0).2.1 ((zcl 5).2.1 0).2.2.1 ∈ zG := zGt2 3 (by decide +kernel) rfl
theorem cf_RX5_17 : Cond.fieldLink RX5 17 ((zcl 5).2.1 1).1 ((zcl 5).2.1 1).2.1 ((zcl 5).2.1 1).2.2.1 ∈ zG := zGt2 4 (by decide +kernel) rfl
theorem cf_RX5_20 : Cond.fieldLink RX5 20 ((zcl 5).2.1 2).1 ((zcl 5).2.1 2).2.1 ((zcl 5).2.1 2).2.2.1 ∈ zG := zGt2 5 (by decide +kernel) rfl
theorem cf_RX5_23 : Cond.fieldLink RX5 23 ((zcl 5).2.1 3).1 ((zcl 5).2.1 3).2.1 ((zcl 5).2.1 3).2.2.1 ∈ zG := zGt2 7 (by decide +kernel) rfl
def mkX5_init (x : Nat) (M : ZM) : ZM := ptR (nw (ptR (nw (ptR (nw (ptR (nw (M) (x + 1)) x 0 (x + 1)) (x + 2)) x 1 (x + 2)) (x + 3)) x 2 (x + 3)) (x + 4)) x 3 (x + 4)
set_option maxRecDepth 20000 in
set_option maxHeartbeats 4000000 in
theorem ct_X5_init {M : ZM} {V1 : List Nat} {b x : Nat} (hv : AVx M V1 b (x + 1)) (hbx : b ≤ x) (hf : FRx V1 b (x + 1 + 4)) (h1000 : x + 1 + 4 ≤ 1000) (hS : zS x = (1, 5) ∧ zS (x + 1) = (2, 96) ∧ zS (x + 2) = (2, 960) ∧ zS (x + 3) = (2, 5) ∧ zS (x + 4) = (2, 5)) : zMt yX5_init cX5_init 1 none 1 4 1066 [.ref x] M none (mkX5_init x M) ∧ AVx (mkX5_init x M) V1 b (x + 1 + 4) := by
  have v0 := hv
  have v1 := AV_nw v0
  have v2 := AV_pt (a := x) (k := 0) v1 (AV_in (z := (x + 1)) v1 (by omega) (by omega))
  have v3 := AV_nw v2
  have v4 := AV_pt (a := x) (k := 1) v3 (AV_in (z := (x + 2)) v3 (by omega) (by omega))
  have v5 := AV_nw v4
  have v6 := AV_pt (a := x) (k := 2) v5 (AV_in (z := (x + 3)) v5 (by omega) (by omega))
  have v7 := AV_nw v6
  have v8 := AV_pt (a := x) (k := 3) v7 (AV_in (z := (x + 4)) v7 (by omega) (by omega))
  refine ⟨?_, v8⟩
  refine zMt_of (by decide +kernel) rfl (Nat.le_of_ble_eq_true rfl) ?_
  show ZW _ _ _ _ _ _ _ _ _ 0 0 0 [some (.ref x)] [] M none _
  refine ZW_sm (pc' := 1) (ls' := [some (.ref x)]) (st' := [.ref x]) (s_aload_n rfl (dk_X5_init (0, .aload_n 0, 1) (List.mem_of_getElem? (i := 0) rfl))) (fun _ => rfl) ?_
  refine Z_obj cm_RX5_7 cb_oi cb_oc (by decide) (dk_X5_init (1, .invokespecial 7, 3) (List.mem_of_getElem? (i := 1) rfl)) ?_
  refine ZW_sm (pc' := 5) (ls' := [some (.ref x)]) (st' := [.ref x]) (s_aload_n rfl (dk_X5_init (4, .aload_n 0, 1) (List.mem_of_getElem? (i := 2) rfl))) (fun _ => rfl) ?_
  refine ZW_sm (pc' := 7) (ls' := [some (.ref x)]) (st' := [.int 96, .ref x]) (s_bipush (v := 96) (by decide) (dk_X5_init (5, .bipush 96, 2) (List.mem_of_getElem? (i := 3) rfl))) (fun _ => rfl) ?_
  refine Z_nwI (a := (x + 1)) (n := 96) hS.2.1 (by decide) (by decide) (by decide) (AV_fr v0 hf (by omega) (by omega)) (AV_fr v0 hf (by omega) (by omega)) (by omega) (AV_cl v0) ⟨by omega, trivial⟩ ⟨by omega, trivial⟩ cb_ai ⟨by decide, by decide⟩ (dk_X5_init (7, .newarray .int, 2) (List.mem_of_getElem? (i := 4) rfl)) ?_
  refine Z_ptR (AV_in v1 (by omega) (by omega)) hS.1 (by decide) (by decide) rfl (Or.inr ⟨rfl, rfl, rfl⟩) (fun _ => rfl) (fun _ => rfl) cf_RX5_13 (dk_X5_init (9, .putfield 13, 3) (List.mem_of_getElem? (i := 5) rfl)) ?_
  refine ZW_sm (pc' := 13) (ls' := [some (.ref x)]) (st' := [.ref x]) (s_aload_n rfl (dk_X5_init (12, .aload_n 0, 1) (List.mem_of_getElem? (i := 6) rfl))) (fun _ => rfl) ?_
  refine ZW_sm (pc' := 16) (ls' := [some (.ref x)]) (st' := [.int 960, .ref x]) (s_sipush (v := 960) (by decide) (dk_X5_init (13, .sipush 960, 3) (List.mem_of_getElem? (i := 7) rfl))) (fun _ => rfl) ?_
  refine Z_nwI (a := (x + 2)) (n := 960) hS.2.2.1 (by decide) (by decide) (by decide) (AV_fr v2 hf (by omega) (by omega)) (AV_fr v0 hf (by omega) (by omega)) (by omega) (AV_cl v2) ⟨by omega, trivial⟩ ⟨by omega, trivial⟩ cb_ai ⟨by decide, by decide⟩ (dk_X5_init (16, .newarray .int, 2) (List.mem_of_getElem? (i := 8) rfl)) ?_
  refine Z_ptR (AV_in v3 (by omega) (by omega)) hS.1 (by decide) (by decide) rfl (Or.inr ⟨rfl, rfl, rfl⟩) (fun _ => rfl) (fun _ => rfl) cf_RX5_17 (dk_X5_init (18, .putfield 17, 3) (List.mem_of_getElem? (i := 9) rfl)) ?_
  refine ZW_sm (pc' := 22) (ls' := [some (.ref x)]) (st' := [.ref x]) (s_aload_n rfl (dk_X5_init (21, .aload_n 0, 1) (List.mem_of_getElem? (i := 10) rfl))) (fun _ => rfl) ?_
  refine ZW_sm (pc' := 23) (ls' := [some (.ref x)]) (st' := [.int 5, .ref x]) (s_iconst (v := 5) (by decide) (dk_X5_init (22, .iconst 5, 1) (List.mem_of_getElem? (i := 11) rfl))) (fun _ => rfl) ?_
  refine Z_nwI (a := (x + 3)) (n := 5) hS.2.2.2.1 (by decide) (by decide) (by decide) (AV_fr v4 hf (by omega) (by omega)) (AV_fr v0 hf (by omega) (by omega)) (by omega) (AV_cl v4) ⟨by omega, trivial⟩ ⟨by omega, trivial⟩ cb_ai ⟨by decide, by decide⟩ (dk_X5_init (23, .newarray .int, 2) (List.mem_of_getElem? (i := 12) rfl)) ?_
  refine Z_ptR (AV_in v5 (by omega) (by omega)) hS.1 (by decide) (by decide) rfl (Or.inr ⟨rfl, rfl, rfl⟩) (fun _ => rfl) (fun _ => rfl) cf_RX5_20 (dk_X5_init (25, .putfield 20, 3) (List.mem_of_getElem? (i := 13) rfl)) ?_
  refine ZW_sm (pc' := 29) (ls' := [some (.ref x)]) (st' := [.ref x]) (s_aload_n rfl (dk_X5_init (28, .aload_n 0, 1) (List.mem_of_getElem? (i := 14) rfl))) (fun _ => rfl) ?_
  refine ZW_sm (pc' := 30) (ls' := [some (.ref x)]) (st' := [.int 5, .ref x]) (s_iconst (v := 5) (by decide) (dk_X5_init (29, .iconst 5, 1) (List.mem_of_getElem? (i := 15) rfl))) (fun _ => rfl) ?_
  refine Z_nwI (a := (x + 4)) (n := 5) hS.2.2.2.2 (by decide) (by decide) (by decide) (AV_fr v6 hf (by omega) (by omega)) (AV_fr v0 hf (by omega) (by omega)) (by omega) (AV_cl v6) ⟨by omega, trivial⟩ ⟨by omega, trivial⟩ cb_ai ⟨by decide, by decide⟩ (dk_X5_init (30, .newarray .int, 2) (List.mem_of_getElem? (i := 16) rfl)) ?_
  refine Z_ptR (AV_in v7 (by omega) (by omega)) hS.1 (by decide) (by decide) rfl (Or.inr ⟨rfl, rfl, rfl⟩) (fun _ => rfl) (fun _ => rfl) cf_RX5_23 (dk_X5_init (32, .putfield 23, 3) (List.mem_of_getElem? (i := 17) rfl)) ?_
  exact ZW_rt (s_vret rfl rfl rfl (dk_X5_init (35, .return_, 1) (List.mem_of_getElem? (i := 18) rfl))) (fun _ => rfl)
def dl_X6_init : List (Nat × Instr × Nat) := [(0, .aload_n 0, 1), (1, .invokespecial 5, 3), (4, .aload_n 0, 1), (5, .bipush 12, 2), (7, .newarray .int, 2), (9, .putfield 11, 3), (12, .aload_n 0, 1), (13, .bipush 20, 2), (15, .newarray .int, 2), (17, .putfield 15, 3), (20, .aload_n 0, 1), (21, .bipush 20, 2), (23, .newarray .int, 2), (25, .putfield 18, 3), (28, .aload_n 0, 1), (29, .bipush 6, 2), (31, .newarray .int, 2), (33, .putfield 21, 3), (36, .aload_n 0, 1), (37, .bipush 6, 2), (39, .newarray .int, 2), (41, .putfield 24, 3), (44, .aload_n 0, 1), (45, .iconst 4, 1), (46, .newarray .int, 2), (48, .putfield 27, 3), (51, .return_, 1)]
set_option maxRecDepth 20000 in
theorem dk_X6_init : ∀ q ∈ dl_X6_init, decode cX6_init q.1 = .ok q.2 := by decide +kernel
theorem cm_RX6_5 : Cond.methodLink RX6 5 Lib.objectInit ∈ zG := zGt2 23 (by decide +kernel) rfl
theorem cf_RX6_11 : Cond.fieldLink RX6 11 ((zcl 6).2.1 0).1 ((zcl 6).2.1 0).2.1 ((zcl 6).2.1 0).2.2.1 ∈ zG := zGt2 24 (by decide +kernel) rfl
theorem cf_RX6_15 : Cond.fieldLink RX6 15 ((zcl 6).2.1 1).1 ((zcl 6).2.1 1).2.1 ((zcl 6).2.1 1).2.2.1 ∈ zG := zGt2 25 (by decide +kernel) rfl
theorem cf_RX6_18 : Cond.fieldLink RX6 18 ((zcl 6).2.1 2).1 ((zcl 6).2.1 2).2.1 ((zcl 6).2.1 2).2.2.1 ∈ zG := zGt2 26 (by decide +kernel) rfl
theorem cf_RX6_21 : Cond.fieldLink RX6 21 ((zcl 6).2.1 3).1 ((zcl 6).2.1 3).2.1 ((zcl 6).2.1 3).2.2.1 ∈ zG := zGt2 27 (by decide +kernel) rfl
theorem cf_RX6_24 : Cond.fieldLink RX6 24 ((zcl 6).2.1 4).1 ((zcl 6).2.1 4).2.1 ((zcl 6).2.1 4).2.2.1 ∈ zG := zGt2 28 (by decide +kernel) rfl
theorem cf_RX6_27 : Cond.fieldLink RX6 27 ((zcl 6).2.1 5).1 ((zcl 6).2.1 5).2.1 ((zcl 6).2.1 5).2.2.1 ∈ zG := zGt2 29 (by decide +kernel) rfl
def mkX6_init (x : Nat) (M : ZM) : ZM := ptR (nw (ptR (nw (ptR (nw (ptR (nw (ptR (nw (ptR (nw (M) (x + 1)) x 0 (x + 1)) (x + 2)) x 1 (x + 2)) (x + 3)) x 2 (x + 3)) (x + 4)) x 3 (x + 4)) (x + 5)) x 4 (x + 5)) (x + 6)) x 5 (x + 6)
set_option maxRecDepth 20000 in
set_option maxHeartbeats 4000000 in
theorem ct_X6_init {M : ZM} {V1 : List Nat} {b x : Nat} (hv : AVx M V1 b (x + 1)) (hbx : b ≤ x) (hf : FRx V1 b (x + 1 + 6)) (h1000 : x + 1 + 6 ≤ 1000) (hS : zS x = (1, 6) ∧ zS (x + 1) = (2, 12) ∧ zS (x + 2) = (2, 20) ∧ zS (x + 3) = (2, 20) ∧ zS (x + 4) = (2, 6) ∧ zS (x + 5) = (2, 6) ∧ zS (x + 6) = (2, 4)) : zMt yX6_init cX6_init 1 none 1 6 68 [.ref x] M none (mkX6_init x M) ∧ AVx (mkX6_init x M) V1 b (x + 1 + 6) := by
  have v0 := hv
  have v1 := AV_nw v0
  have v2 := AV_pt (a := x) (k := 0) v1 (AV_in (z := (x + 1)) v1 (by omega) (by omega))
  have v3 := AV_nw v2
  have v4 := AV_pt (a := x) (k := 1) v3 (AV_in (z := (x + 2)) v3 (by omega) (by omega))
  have v5 := AV_nw v4
  have v6 := AV_pt (a := x) (k := 2) v5 (AV_in (z := (x + 3)) v5 (by omega) (by omega))
  have v7 := AV_nw v6
  have v8 := AV_pt (a := x) (k := 3) v7 (AV_in (z := (x + 4)) v7 (by omega) (by omega))
  have v9 := AV_nw v8
  have v10 := AV_pt (a := x) (k := 4) v9 (AV_in (z := (x + 5)) v9 (by omega) (by omega))
  have v11 := AV_nw v10
  have v12 := AV_pt (a := x) (k := 5) v11 (AV_in (z := (x + 6)) v11 (by omega) (by omega))
  refine ⟨?_, v12⟩
  refine zMt_of (by decide +kernel) rfl (Nat.le_of_ble_eq_true rfl) ?_
  show ZW _ _ _ _ _ _ _ _ _ 0 0 0 [some (.ref x)] [] M none _
  refine ZW_sm (pc' := 1) (ls' := [some (.ref x)]) (st' := [.ref x]) (s_aload_n rfl (dk_X6_init (0, .aload_n 0, 1) (List.mem_of_getElem? (i := 0) rfl))) (fun _ => rfl) ?_
  refine Z_obj cm_RX6_5 cb_oi cb_oc (by decide) (dk_X6_init (1, .invokespecial 5, 3) (List.mem_of_getElem? (i := 1) rfl)) ?_
  refine ZW_sm (pc' := 5) (ls' := [some (.ref x)]) (st' := [.ref x]) (s_aload_n rfl (dk_X6_init (4, .aload_n 0, 1) (List.mem_of_getElem? (i := 2) rfl))) (fun _ => rfl) ?_
  refine ZW_sm (pc' := 7) (ls' := [some (.ref x)]) (st' := [.int 12, .ref x]) (s_bipush (v := 12) (by decide) (dk_X6_init (5, .bipush 12, 2) (List.mem_of_getElem? (i := 3) rfl))) (fun _ => rfl) ?_
  refine Z_nwI (a := (x + 1)) (n := 12) hS.2.1 (by decide) (by decide) (by decide) (AV_fr v0 hf (by omega) (by omega)) (AV_fr v0 hf (by omega) (by omega)) (by omega) (AV_cl v0) ⟨by omega, trivial⟩ ⟨by omega, trivial⟩ cb_ai ⟨by decide, by decide⟩ (dk_X6_init (7, .newarray .int, 2) (List.mem_of_getElem? (i := 4) rfl)) ?_
  refine Z_ptR (AV_in v1 (by omega) (by omega)) hS.1 (by decide) (by decide) rfl (Or.inr ⟨rfl, rfl, rfl⟩) (fun _ => rfl) (fun _ => rfl) cf_RX6_11 (dk_X6_init (9, .putfield 11, 3) (List.mem_of_getElem? (i := 5) rfl)) ?_
  refine ZW_sm (pc' := 13) (ls' := [some (.ref x)]) (st' := [.ref x]) (s_aload_n rfl (dk_X6_init (12, .aload_n 0, 1) (List.mem_of_getElem? (i := 6) rfl))) (fun _ => rfl) ?_
  refine ZW_sm (pc' := 15) (ls' := [some (.ref x)]) (st' := [.int 20, .ref x]) (s_bipush (v := 20) (by decide) (dk_X6_init (13, .bipush 20, 2) (List.mem_of_getElem? (i := 7) rfl))) (fun _ => rfl) ?_
  refine Z_nwI (a := (x + 2)) (n := 20) hS.2.2.1 (by decide) (by decide) (by decide) (AV_fr v2 hf (by omega) (by omega)) (AV_fr v0 hf (by omega) (by omega)) (by omega) (AV_cl v2) ⟨by omega, trivial⟩ ⟨by omega, trivial⟩ cb_ai ⟨by decide, by decide⟩ (dk_X6_init (15, .newarray .int, 2) (List.mem_of_getElem? (i := 8) rfl)) ?_
  refine Z_ptR (AV_in v3 (by omega) (by omega)) hS.1 (by decide) (by decide) rfl (Or.inr ⟨rfl, rfl, rfl⟩) (fun _ => rfl) (fun _ => rfl) cf_RX6_15 (dk_X6_init (17, .putfield 15, 3) (List.mem_of_getElem? (i := 9) rfl)) ?_
  refine ZW_sm (pc' := 21) (ls' := [some (.ref x)]) (st' := [.ref x]) (s_aload_n rfl (dk_X6_init (20, .aload_n 0, 1) (List.mem_of_getElem? (i := 10) rfl))) (fun _ => rfl) ?_
  refine ZW_sm (pc' := 23) (ls' := [some (.ref x)]) (st' := [.int 20, .ref x]) (s_bipush (v := 20) (by decide) (dk_X6_init (21, .bipush 20, 2) (List.mem_of_getElem? (i := 11) rfl))) (fun _ => rfl) ?_
  refine Z_nwI (a := (x + 3)) (n := 20) hS.2.2.2.1 (by decide) (by decide) (by decide) (AV_fr v4 hf (by omega) (by omega)) (AV_fr v0 hf (by omega) (by omega)) (by omega) (AV_cl v4) ⟨by omega, trivial⟩ ⟨by omega, trivial⟩ cb_ai ⟨by decide, by decide⟩ (dk_X6_init (23, .newarray .int, 2) (List.mem_of_getElem? (i := 12) rfl)) ?_
  refine Z_ptR (AV_in v5 (by omega) (by omega)) hS.1 (by decide) (by decide) rfl (Or.inr ⟨rfl, rfl, rfl⟩) (fun _ => rfl) (fun _ => rfl) cf_RX6_18 (dk_X6_init (25, .putfield 18, 3) (List.mem_of_getElem? (i := 13) rfl)) ?_
  refine ZW_sm (pc' := 29) (ls' := [some (.ref x)]) (st' := [.ref x]) (s_aload_n rfl (dk_X6_init (28, .aload_n 0, 1) (List.mem_of_getElem? (i := 14) rfl))) (fun _ => rfl) ?_
  refine ZW_sm (pc' := 31) (ls' := [some (.ref x)]) (st' := [.int 6, .ref x]) (s_bipush (v := 6) (by decide) (dk_X6_init (29, .bipush 6, 2) (List.mem_of_getElem? (i := 15) rfl))) (fun _ => rfl) ?_
  refine Z_nwI (a := (x + 4)) (n := 6) hS.2.2.2.2.1 (by decide) (by decide) (by decide) (AV_fr v6 hf (by omega) (by omega)) (AV_fr v0 hf (by omega) (by omega)) (by omega) (AV_cl v6) ⟨by omega, trivial⟩ ⟨by omega, trivial⟩ cb_ai ⟨by decide, by decide⟩ (dk_X6_init (31, .newarray .int, 2) (List.mem_of_getElem? (i := 16) rfl)) ?_
  refine Z_ptR (AV_in v7 (by omega) (by omega)) hS.1 (by decide) (by decide) rfl (Or.inr ⟨rfl, rfl, rfl⟩) (fun _ => rfl) (fun _ => rfl) cf_RX6_21 (dk_X6_init (33, .putfield 21, 3) (List.mem_of_getElem? (i := 17) rfl)) ?_
  refine ZW_sm (pc' := 37) (ls' := [some (.ref x)]) (st' := [.ref x]) (s_aload_n rfl (dk_X6_init (36, .aload_n 0, 1) (List.mem_of_getElem? (i := 18) rfl))) (fun _ => rfl) ?_
  refine ZW_sm (pc' := 39) (ls' := [some (.ref x)]) (st' := [.int 6, .ref x]) (s_bipush (v := 6) (by decide) (dk_X6_init (37, .bipush 6, 2) (List.mem_of_getElem? (i := 19) rfl))) (fun _ => rfl) ?_
  refine Z_nwI (a := (x + 5)) (n := 6) hS.2.2.2.2.2.1 (by decide) (by decide) (by decide) (AV_fr v8 hf (by omega) (by omega)) (AV_fr v0 hf (by omega) (by omega)) (by omega) (AV_cl v8) ⟨by omega, trivial⟩ ⟨by omega, trivial⟩ cb_ai ⟨by decide, by decide⟩ (dk_X6_init (39, .newarray .int, 2) (List.mem_of_getElem? (i := 20) rfl)) ?_
  refine Z_ptR (AV_in v9 (by omega) (by omega)) hS.1 (by decide) (by decide) rfl (Or.inr ⟨rfl, rfl, rfl⟩) (fun _ => rfl) (fun _ => rfl) cf_RX6_24 (dk_X6_init (41, .putfield 24, 3) (List.mem_of_getElem? (i := 21) rfl)) ?_
  refine ZW_sm (pc' := 45) (ls' := [some (.ref x)]) (st' := [.ref x]) (s_aload_n rfl (dk_X6_init (44, .aload_n 0, 1) (List.mem_of_getElem? (i := 22) rfl))) (fun _ => rfl) ?_
  refine ZW_sm (pc' := 46) (ls' := [some (.ref x)]) (st' := [.int 4, .ref x]) (s_iconst (v := 4) (by decide) (dk_X6_init (45, .iconst 4, 1) (List.mem_of_getElem? (i := 23) rfl))) (fun _ => rfl) ?_
  refine Z_nwI (a := (x + 6)) (n := 4) hS.2.2.2.2.2.2 (by decide) (by decide) (by decide) (AV_fr v10 hf (by omega) (by omega)) (AV_fr v0 hf (by omega) (by omega)) (by omega) (AV_cl v10) ⟨by omega, trivial⟩ ⟨by omega, trivial⟩ cb_ai ⟨by decide, by decide⟩ (dk_X6_init (46, .newarray .int, 2) (List.mem_of_getElem? (i := 24) rfl)) ?_
  refine Z_ptR (AV_in v11 (by omega) (by omega)) hS.1 (by decide) (by decide) rfl (Or.inr ⟨rfl, rfl, rfl⟩) (fun _ => rfl) (fun _ => rfl) cf_RX6_27 (dk_X6_init (48, .putfield 27, 3) (List.mem_of_getElem? (i := 25) rfl)) ?_
  exact ZW_rt (s_vret rfl rfl rfl (dk_X6_init (51, .return_, 1) (List.mem_of_getElem? (i := 26) rfl))) (fun _ => rfl)
def dl_X2_init : List (Nat × Instr × Nat) := [(0, .aload_n 0, 1), (1, .invokespecial 3, 3), (4, .aload_n 0, 1), (5, .sipush 7168, 3), (8, .newarray .int, 2), (10, .putfield 13, 3), (13, .aload_n 0, 1), (14, .bipush 60, 2), (16, .newarray .int, 2), (18, .putfield 17, 3), (21, .return_, 1)]
set_option maxRecDepth 20000 in
theorem dk_X2_init : ∀ q ∈ dl_X2_init, decode cX2_init q.1 = .ok q.2 := by decide +kernel
theorem cm_RX2_3 : Cond.methodLink RX2 3 Lib.objectInit ∈ zG := zGt5 62 (by decide +kernel) rfl
theorem cf_RX2_13 : Cond.fieldLink RX2 13 ((zcl 2).2.1 0).1 ((zcl 2).2.1 0).2.1 ((zcl 2).2.1 0).2.2.1 ∈ zG := zGt5 63 (by decide +kernel) rfl
theorem cf_RX2_17 : Cond.fieldLink RX2 17 ((zcl 2).2.1 1).1 ((zcl 2).2.1 1).2.1 ((zcl 2).2.1 1).2.2.1 ∈ zG := zGt5 64 (by decide +kernel) rfl
def mkX2_init (x : Nat) (M : ZM) : ZM := ptR (nw (ptR (nw (M) (x + 1)) x 0 (x + 1)) (x + 2)) x 1 (x + 2)
set_option maxRecDepth 20000 in
set_option maxHeartbeats 4000000 in
theorem ct_X2_init {M : ZM} {V1 : List Nat} {b x : Nat} (hv : AVx M V1 b (x + 1)) (hbx : b ≤ x) (hf : FRx V1 b (x + 1 + 2)) (h1000 : x + 1 + 2 ≤ 1000) (hS : zS x = (1, 2) ∧ zS (x + 1) = (2, 7168) ∧ zS (x + 2) = (2, 60)) : zMt yX2_init cX2_init 1 none 1 2 7228 [.ref x] M none (mkX2_init x M) ∧ AVx (mkX2_init x M) V1 b (x + 1 + 2) := by
  have v0 := hv
  have v1 := AV_nw v0
  have v2 := AV_pt (a := x) (k := 0) v1 (AV_in (z := (x + 1)) v1 (by omega) (by omega))
  have v3 := AV_nw v2
  have v4 := AV_pt (a := x) (k := 1) v3 (AV_in (z := (x + 2)) v3 (by omega) (by omega))
  refine ⟨?_, v4⟩
  refine zMt_of (by decide +kernel) rfl (Nat.le_of_ble_eq_true rfl) ?_
  show ZW _ _ _ _ _ _ _ _ _ 0 0 0 [some (.ref x)] [] M none _
  refine ZW_sm (pc' := 1) (ls' := [some (.ref x)]) (st' := [.ref x]) (s_aload_n rfl (dk_X2_init (0, .aload_n 0, 1) (List.mem_of_getElem? (i := 0) rfl))) (fun _ => rfl) ?_
  refine Z_obj cm_RX2_3 cb_oi cb_oc (by decide) (dk_X2_init (1, .invokespecial 3, 3) (List.mem_of_getElem? (i := 1) rfl)) ?_
  refine ZW_sm (pc' := 5) (ls' := [some (.ref x)]) (st' := [.ref x]) (s_aload_n rfl (dk_X2_init (4, .aload_n 0, 1) (List.mem_of_getElem? (i := 2) rfl))) (fun _ => rfl) ?_
  refine ZW_sm (pc' := 8) (ls' := [some (.ref x)]) (st' := [.int 7168, .ref x]) (s_sipush (v := 7168) (by decide) (dk_X2_init (5, .sipush 7168, 3) (List.mem_of_getElem? (i := 3) rfl))) (fun _ => rfl) ?_
  refine Z_nwI (a := (x + 1)) (n := 7168) hS.2.1 (by decide) (by decide) (by decide) (AV_fr v0 hf (by omega) (by omega)) (AV_fr v0 hf (by omega) (by omega)) (by omega) (AV_cl v0) ⟨by omega, trivial⟩ ⟨by omega, trivial⟩ cb_ai ⟨by decide, by decide⟩ (dk_X2_init (8, .newarray .int, 2) (List.mem_of_getElem? (i := 4) rfl)) ?_
  refine Z_ptR (AV_in v1 (by omega) (by omega)) hS.1 (by decide) (by decide) rfl (Or.inr ⟨rfl, rfl, rfl⟩) (fun _ => rfl) (fun _ => rfl) cf_RX2_13 (dk_X2_init (10, .putfield 13, 3) (List.mem_of_getElem? (i := 5) rfl)) ?_
  refine ZW_sm (pc' := 14) (ls' := [some (.ref x)]) (st' := [.ref x]) (s_aload_n rfl (dk_X2_init (13, .aload_n 0, 1) (List.mem_of_getElem? (i := 6) rfl))) (fun _ => rfl) ?_
  refine ZW_sm (pc' := 16) (ls' := [some (.ref x)]) (st' := [.int 60, .ref x]) (s_bipush (v := 60) (by decide) (dk_X2_init (14, .bipush 60, 2) (List.mem_of_getElem? (i := 7) rfl))) (fun _ => rfl) ?_
  refine Z_nwI (a := (x + 2)) (n := 60) hS.2.2 (by decide) (by decide) (by decide) (AV_fr v2 hf (by omega) (by omega)) (AV_fr v0 hf (by omega) (by omega)) (by omega) (AV_cl v2) ⟨by omega, trivial⟩ ⟨by omega, trivial⟩ cb_ai ⟨by decide, by decide⟩ (dk_X2_init (16, .newarray .int, 2) (List.mem_of_getElem? (i := 8) rfl)) ?_
  refine Z_ptR (AV_in v3 (by omega) (by omega)) hS.1 (by decide) (by decide) rfl (Or.inr ⟨rfl, rfl, rfl⟩) (fun _ => rfl) (fun _ => rfl) cf_RX2_17 (dk_X2_init (18, .putfield 17, 3) (List.mem_of_getElem? (i := 9) rfl)) ?_
  exact ZW_rt (s_vret rfl rfl rfl (dk_X2_init (21, .return_, 1) (List.mem_of_getElem? (i := 10) rfl))) (fun _ => rfl)
theorem cf_RX11_341 : Cond.fieldLink RX11 341 ((zcl 11).2.1 8).1 ((zcl 11).2.1 8).2.1 ((zcl 11).2.1 8).2.2.1 ∈ zG := zGt2 125 (by decide +kernel) rfl
theorem cc_RX11_275 : Cond.classLink RX11 275 (zcl 2).1 ∈ zG := zGt5 57 (by decide +kernel) rfl
theorem ci_2 : Cond.instantiable (zcl 2).1 (zcl 2).2.2 ∈ zG := zGt5 58 (by decide +kernel) rfl
theorem cn_2 : Cond.initialized (zcl 2).1 ∈ zG := zGt1 21 (by decide +kernel) rfl
theorem cm_RX11_345 : zMn RX11 345 yX2_init := ⟨"SackedGlass", zNt5 59 (by decide +kernel) rfl⟩
theorem cc_RX11_16 : Cond.classLink RX11 16 (zcl 10).1 ∈ zG := zGt1 65 (by decide +kernel) rfl
theorem ci_10 : Cond.instantiable (zcl 10).1 (zcl 10).2.2 ∈ zG := zGt1 66 (by decide +kernel) rfl
theorem cn_10 : Cond.initialized (zcl 10).1 ∈ zG := zGt1 3 (by decide +kernel) rfl
theorem cm_RX11_18 : zMn RX11 18 yX10_init := ⟨"SackedGlass", zNt1 67 (by decide +kernel) rfl⟩
theorem cf_RX11_326 : Cond.fieldLink RX11 326 ((zcl 11).2.1 7).1 ((zcl 11).2.1 7).2.1 ((zcl 11).2.1 7).2.2.1 ∈ zG := zGt2 124 (by decide +kernel) rfl
theorem mi_X10_init : zMI yX10_init cX10_init 1 0 := ⟨zGt1 68 (by decide +kernel) rfl, zGt1 3 (by decide +kernel) rfl, zGt1 69 (by decide +kernel) rfl, by decide +kernel, by decide +kernel, by decide +kernel, rfl⟩
theorem mi_X2_init : zMI yX2_init cX2_init 1 0 := ⟨zGt5 60 (by decide +kernel) rfl, zGt1 21 (by decide +kernel) rfl, zGt5 61 (by decide +kernel) rfl, by decide +kernel, by decide +kernel, by decide +kernel, rfl⟩
theorem mi_X11_init : zMI yX11_init cX11_init 1 0 := ⟨zGt1 25 (by decide +kernel) rfl, zGt1 1 (by decide +kernel) rfl, zGt1 26 (by decide +kernel) rfl, by decide +kernel, by decide +kernel, by decide +kernel, rfl⟩
theorem mi_X12_init : zMI yX12_init cX12_init 1 0 := ⟨zGt5 239 (by decide +kernel) rfl, zGt1 12 (by decide +kernel) rfl, zGt6 0 rfl rfl, by decide +kernel, by decide +kernel, by decide +kernel, rfl⟩
