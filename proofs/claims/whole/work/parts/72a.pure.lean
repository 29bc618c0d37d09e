/-! constructors that call others, printed by mk72.py -/
def dl_X10_init : List (Nat × Instr × Nat) := [(0, .aload_n 0, 1), (1, .invokespecial 3, 3), (4, .aload_n 0, 1), (5, .new 9, 3), (8, .dup, 1), (9, .iconst 1, 1), (10, .invokespecial 11, 3), (13, .putfield 14, 3), (16, .aload_n 0, 1), (17, .new 20, 3), (20, .dup, 1), (21, .invokespecial 22, 3), (24, .putfield 23, 3), (27, .aload_n 0, 1), (28, .new 27, 3), (31, .dup, 1), (32, .invokespecial 29, 3), (35, .putfield 30, 3), (38, .aload_n 0, 1), (39, .new 34, 3), (42, .dup, 1), (43, .invokespecial 36, 3), (46, .putfield 37, 3), (49, .aload_n 0, 1), (50, .new 41, 3), (53, .dup, 1), (54, .invokespecial 43, 3), (57, .putfield 44, 3), (60, .aload_n 0, 1), (61, .new 48, 3), (64, .dup, 1), (65, .invokespecial 50, 3), (68, .putfield 51, 3), (71, .aload_n 0, 1), (72, .new 55, 3), (75, .dup, 1), (76, .invokespecial 57, 3), (79, .putfield 58, 3), (82, .aload_n 0, 1), (83, .iconst 5, 1), (84, .newarray .long, 2), (86, .putfield 62, 3), (89, .return_, 1)]
set_option maxRecDepth 20000 in
theorem dk_X10_init : ∀ q ∈ dl_X10_init, decode cX10_init q.1 = .ok q.2 := by decide +kernel
theorem cm_RX10_3 : Cond.methodLink RX10 3 Lib.objectInit ∈ zG := zGt1 70 (by decide +kernel) rfl
theorem cc_RX10_9 : Cond.classLink RX10 9 (zcl 3).1 ∈ zG := zGt1 71 (by decide +kernel) rfl
theorem ci_3 : Cond.instantiable (zcl 3).1 (zcl 3).2.2 ∈ zG := zGt1 72 (by decide +kernel) rfl
theorem cn_3 : Cond.initialized (zcl 3).1 ∈ zG := zGt1 4 (by decide +kernel) rfl
theorem cm_RX10_11 : zMl RX10 11 yX3_init := zGt1 73 (by decide +kernel) rfl
theorem mi_X3_init : zMI yX3_init cX3_init 2 1 := ⟨zGt1 74 (by decide +kernel) rfl, zGt1 4 (by decide +kernel) rfl, zGt1 75 (by decide +kernel) rfl, by decide +kernel, by decide +kernel, by decide +kernel, rfl⟩
theorem cf_RX10_14 : Cond.fieldLink RX10 14 ((zcl 10).2.1 0).1 ((zcl 10).2.1 0).2.1 ((zcl 10).2.1 0).2.2.1 ∈ zG := zGt2 56 (by decide +kernel) rfl
theorem cc_RX10_20 : Cond.classLink RX10 20 (zcl 4).1 ∈ zG := zGt1 144 (by decide +kernel) rfl
theorem ci_4 : Cond.instantiable (zcl 4).1 (zcl 4).2.2 ∈ zG := zGt1 145 (by decide +kernel) rfl
theorem cn_4 : Cond.initialized (zcl 4).1 ∈ zG := zGt1 5 (by decide +kernel) rfl
theorem cm_RX10_22 : zMn RX10 22 yX4_init := ⟨"SackedGlass", zNt1 146 (by decide +kernel) rfl⟩
theorem mi_X4_init : zMI yX4_init cX4_init 1 0 := ⟨zGt1 147 (by decide +kernel) rfl, zGt1 5 (by decide +kernel) rfl, zGt1 148 (by decide +kernel) rfl, by decide +kernel, by decide +kernel, by decide +kernel, rfl⟩
theorem cf_RX10_23 : Cond.fieldLink RX10 23 ((zcl 10).2.1 1).1 ((zcl 10).2.1 1).2.1 ((zcl 10).2.1 1).2.2.1 ∈ zG := zGt2 58 (by decide +kernel) rfl
theorem cc_RX10_27 : Cond.classLink RX10 27 (zcl 7).1 ∈ zG := zGt1 179 (by decide +kernel) rfl
theorem ci_7 : Cond.instantiable (zcl 7).1 (zcl 7).2.2 ∈ zG := zGt1 180 (by decide +kernel) rfl
theorem cn_7 : Cond.initialized (zcl 7).1 ∈ zG := zGt1 6 (by decide +kernel) rfl
theorem cm_RX10_29 : zMn RX10 29 yX7_init := ⟨"SackedGlass", zNt1 181 (by decide +kernel) rfl⟩
theorem mi_X7_init : zMI yX7_init cX7_init 1 0 := ⟨zGt1 182 (by decide +kernel) rfl, zGt1 6 (by decide +kernel) rfl, zGt1 183 (by decide +kernel) rfl, by decide +kernel, by decide +kernel, by decide +kernel, rfl⟩
theorem cf_RX10_30 : Cond.fieldLink RX10 30 ((zcl 10).2.1 2).1 ((zcl 10).2.1 2).2.1 ((zcl 10).2.1 2).2.2.1 ∈ zG := zGt2 60 (by decide +kernel) rfl
theorem cc_RX10_34 : Cond.classLink RX10 34 (zcl 0).1 ∈ zG := zGt1 199 (by decide +kernel) rfl
theorem ci_0 : Cond.instantiable (zcl 0).1 (zcl 0).2.2 ∈ zG := zGt1 200 (by decide +kernel) rfl
theorem cn_0 : Cond.initialized (zcl 0).1 ∈ zG := zGt1 7 (by decide +kernel) rfl
theorem cm_RX10_36 : zMn RX10 36 yX0_init := ⟨"SackedGlass", zNt1 201 (by decide +kernel) rfl⟩
theorem mi_X0_init : zMI yX0_init cX0_init 1 0 := ⟨zGt1 202 (by decide +kernel) rfl, zGt1 7 (by decide +kernel) rfl, zGt1 203 (by decide +kernel) rfl, by decide +kernel, by decide +kernel, by decide +kernel, rfl⟩
theorem cf_RX10_37 : Cond.fieldLink RX10 37 ((zcl 10).2.1 3).1 ((zcl 10).2.1 3).2.1 ((zcl 10).2.1 3).2.2.1 ∈ zG := zGt2 62 (by decide +kernel) rfl
theorem cc_RX10_41 : Cond.classLink RX10 41 (zcl 1).1 ∈ zG := zGt1 227 (by decide +kernel) rfl
theorem ci_1 : Cond.instantiable (zcl 1).1 (zcl 1).2.2 ∈ zG := zGt1 228 (by decide +kernel) rfl
theorem cn_1 : Cond.initialized (zcl 1).1 ∈ zG := zGt1 8 (by decide +kernel) rfl
theorem cm_RX10_43 : zMn RX10 43 yX1_init := ⟨"SackedGlass", zNt1 229 (by decide +kernel) rfl⟩
theorem mi_X1_init : zMI yX1_init cX1_init 1 0 := ⟨zGt1 230 (by decide +kernel) rfl, zGt1 8 (by decide +kernel) rfl, zGt1 231 (by decide +kernel) rfl, by decide +kernel, by decide +kernel, by decide +kernel, rfl⟩
theorem cf_RX10_44 : Cond.fieldLink RX10 44 ((zcl 10).2.1 4).1 ((zcl 10).2.1 4).2.1 ((zcl 10).2.1 4).2.2.1 ∈ zG := zGt2 64 (by decide +kernel) rfl
theorem cc_RX10_48 : Cond.classLink RX10 48 (zcl 5).1 ∈ zG := zGt1 237 (by decide +kernel) rfl
theorem ci_5 : Cond.instantiable (zcl 5).1 (zcl 5).2.2 ∈ zG := zGt1 238 (by decide +kernel) rfl
theorem cn_5 : Cond.initialized (zcl 5).1 ∈ zG := zGt1 9 (by decide +kernel) rfl
theorem cm_RX10_50 : zMn RX10 50 yX5_init := ⟨"SackedGlass", zNt1 239 (by decide +kernel) rfl⟩
theorem mi_X5_init : zMI yX5_init cX5_init 1 0 := ⟨zGt2 0 (by decide +kernel) rfl, zGt1 9 (by decide +kernel) rfl, zGt2 1 (by decide +kernel) rfl, by decide +kernel, by decide +kernel, by decide +kernel, rfl⟩
theorem cf_RX10_51 : Cond.fieldLink RX10 51 ((zcl 10).2.1 5).1 ((zcl 10).2.1 5).2.1 ((zcl 10).2.1 5).2.2.1 ∈ zG := zGt2 66 (by decide +kernel) rfl
theorem cc_RX10_55 : Cond.classLink RX10 55 (zcl 6).1 ∈ zG := zGt2 18 (by decide +kernel) rfl
theorem ci_6 : Cond.instantiable (zcl 6).1 (zcl 6).2.2 ∈ zG := zGt2 19 (by decide +kernel) rfl
theorem cn_6 : Cond.initialized (zcl 6).1 ∈ zG := zGt1 10 (by decide +kernel) rfl
theorem cm_RX10_57 : zMn RX10 57 yX6_init := ⟨"SackedGlass", zNt2 20 (by decide +kernel) rfl⟩
theorem mi_X6_init : zMI yX6_init cX6_init 1 0 := ⟨zGt2 21 (by decide +kernel) rfl, zGt1 10 (by decide +kernel) rfl, zGt2 22 (by decide +kernel) rfl, by decide +kernel, by decide +kernel, by decide +kernel, rfl⟩
theorem cf_RX10_58 : Cond.fieldLink RX10 58 ((zcl 10).2.1 6).1 ((zcl 10).2.1 6).2.1 ((zcl 10).2.1 6).2.2.1 ∈ zG := zGt2 68 (by decide +kernel) rfl
theorem cf_RX10_62 : Cond.fieldLink RX10 62 ((zcl 10).2.1 7).1 ((zcl 10).2.1 7).2.1 ((zcl 10).2.1 7).2.2.1 ∈ zG := zGt2 70 (by decide +kernel) rfl
def mkX10_init (x : Nat) (M : ZM) : ZM := ptR (nw (ptR (mkX6_init (x + 26) (nw (ptR (mkX5_init (x + 21) (nw (ptR (mkX1_init (x + 19) (nw (ptR (mkX0_init (x + 14) (nw (ptR (mkX7_init (x + 11) (nw (ptR (mkX4_init (x + 3) (nw (ptR (mkX3_init (x + 1) 1 (nw (M) (x + 1))) x 0 (x + 1)) (x + 3))) x 1 (x + 3)) (x + 11))) x 2 (x + 11)) (x + 14))) x 3 (x + 14)) (x + 19))) x 4 (x + 19)) (x + 21))) x 5 (x + 21)) (x + 26))) x 6 (x + 26)) (x + 33)) x 7 (x + 33)
set_option maxRecDepth 20000 in
set_option maxHeartbeats 4000000 in
theorem ct_X10_init {M : ZM} {V1 : List Nat} {b x : Nat} (hv : AVx M V1 b (x + 1)) (hbx : b ≤ x) (hf : FRx V1 b (x + 1 + 33)) (h1000 : x + 1 + 33 ≤ 1000) (hS : zS x = (1, 10) ∧ zS (x + 1) = (1, 3) ∧ zS (x + 2) = (2, 70) ∧ zS (x + 3) = (1, 4) ∧ zS (x + 4) = (2, 16) ∧ zS (x + 5) = (2, 16) ∧ zS (x + 6) = (2, 16) ∧ zS (x + 7) = (2, 16) ∧ zS (x + 8) = (2, 400) ∧ zS (x + 9) = (2, 32) ∧ zS (x + 10) = (2, 9) ∧ zS (x + 11) = (1, 7) ∧ zS (x + 12) = (2, 12) ∧ zS (x + 13) = (2, 12) ∧ zS (x + 14) = (1, 0) ∧ zS (x + 15) = (2, 16) ∧ zS (x + 16) = (2, 16) ∧ zS (x + 17) = (2, 16) ∧ zS (x + 18) = (2, 16) ∧ zS (x + 19) = (1, 1) ∧ zS (x + 20) = (2, 600) ∧ zS (x + 21) = (1, 5) ∧ zS (x + 22) = (2, 96) ∧ zS (x + 23) = (2, 960) ∧ zS (x + 24) = (2, 5) ∧ zS (x + 25) = (2, 5) ∧ zS (x + 26) = (1, 6) ∧ zS (x + 27) = (2, 12) ∧ zS (x + 28) = (2, 20) ∧ zS (x + 29) = (2, 20) ∧ zS (x + 30) = (2, 6) ∧ zS (x + 31) = (2, 6) ∧ zS (x + 32) = (2, 4) ∧ zS (x + 33) = (3, 5)) : zMt yX10_init cX10_init 1 none 2 33 2447 [.ref x] M none (mkX10_init x M) ∧ AVx (mkX10_init x M) V1 b (x + 1 + 33) := by
  have v0 := hv
  have v1 := AV_nw v0
  have u1 := ct_X3_init (x := (x + 1)) (w := 1) (Or.inr rfl) v1 (by omega) (fun z z1 z2 => hf z z1 (by omega)) (by omega) ⟨hS.2.1, hS.2.2.1⟩
  have v2 := u1.2
  have v3 := AV_pt (a := x) (k := 0) v2 (AV_in (z := (x + 1)) v2 (by omega) (by omega))
  have v4 := AV_nw v3
  have u4 := ct_X4_init (x := (x + 3)) v4 (by omega) (fun z z1 z2 => hf z z1 (by omega)) (by omega) ⟨hS.2.2.2.1, hS.2.2.2.2.1, hS.2.2.2.2.2.1, hS.2.2.2.2.2.2.1, hS.2.2.2.2.2.2.2.1, hS.2.2.2.2.2.2.2.2.1, hS.2.2.2.2.2.2.2.2.2.1, hS.2.2.2.2.2.2.2.2.2.2.1⟩
  have v5 := u4.2
  have v6 := AV_pt (a := x) (k := 1) v5 (AV_in (z := (x + 3)) v5 (by omega) (by omega))
  have v7 := AV_nw v6
  have u7 := ct_X7_init (x := (x + 11)) v7 (by omega) (fun z z1 z2 => hf z z1 (by omega)) (by omega) ⟨hS.2.2.2.2.2.2.2.2.2.2.2.1, hS.2.2.2.2.2.2.2.2.2.2.2.2.1, hS.2.2.2.2.2.2.2.2.2.2.2.2.2.1⟩
  have v8 := u7.2
  have v9 := AV_pt (a := x) (k := 2) v8 (AV_in (z := (x + 11)) v8 (by omega) (by omega))
  have v10 := AV_nw v9
  have u10 := ct_X0_init (x := (x + 14)) v10 (by omega) (fun z z1 z2 => hf z z1 (by omega)) (by omega) ⟨hS.2.2.2.2.2.2.2.2.2.2.2.2.2.2.1, hS.2.2.2.2.2.2.2.2.2.2.2.2.2.2.2.1, hS.2.2.2.2.2.2.2.2.2.2.2.2.2.2.2.2.1, hS.2.2.2.2.2.2.2.2.2.2.2.2.2.2.2.2.2.1, hS.2.2.2.2.2.2.2.2.2.2.2.2.2.2.2.2.2.2.1⟩
  have v11 := u10.2
  have v12 := AV_pt (a := x) (k := 3) v11 (AV_in (z := (x + 14)) v11 (by omega) (by omega))
  have v13 := AV_nw v12
  have u13 := ct_X1_init (x := (x + 19)) v13 (by omega) (fun z z1 z2 => hf z z1 (by omega)) (by omega) ⟨hS.2.2.2.2.2.2.2.2.2.2.2.2.2.2.2.2.2.2.2.1, hS.2.2.2.2.2.2.2.2.2.2.2.2.2.2.2.2.2.2.2.2.1⟩
  have v14 := u13.2
  have v15 := AV_pt (a := x) (k := 4) v14 (AV_in (z := (x + 19)) v14 (by omega) (by omega))
  have v16 := AV_nw v15
  have u16 := ct_X5_init (x := (x + 21)) v16 (by omega) (fun z z1 z2 => hf z z1 (by omega)) (by omega) ⟨hS.2.2.2.2.2.2.2.2.2.2.2.2.2.2.2.2.2.2.2.2.2.1, hS.2.2.2.2.2.2.2.2.2.2.2.2.2.2.2.2.2.2.2.2.2.2.1, hS.2.2.2.2.2.2.2.2.2.2.2.2.2.2.2.2.2.2.2.2.2.2.2.1, hS.2.2.2.2.2.2.2.2.2.2.2.2.2.2.2.2.2.2.2.2.2.2.2.2.1, hS.2.2.2.2.2.2.2.2.2.2.2.2.2.2.2.2.2.2.2.2.2.2.2.2.2.1⟩
  have v17 := u16.2
  have v18 := AV_pt (a := x) (k := 5) v17 (AV_in (z := (x + 21)) v17 (by omega) (by omega))
  have v19 := AV_nw v18
  have u19 := ct_X6_init (x := (x + 26)) v19 (by omega) (fun z z1 z2 => hf z z1 (by omega)) (by omega) ⟨hS.2.2.2.2.2.2.2.2.2.2.2.2.2.2.2.2.2.2.2.2.2.2.2.2.2.2.1, hS.2.2.2.2.2.2.2.2.2.2.2.2.2.2.2.2.2.2.2.2.2.2.2.2.2.2.2.1, hS.2.2.2.2.2.2.2.2.2.2.2.2.2.2.2.2.2.2.2.2.2.2.2.2.2.2.2.2.1, hS.2.2.2.2.2.2.2.2.2.2.2.2.2.2.2.2.2.2.2.2.2.2.2.2.2.2.2.2.2.1, hS.2.2.2.2.2.2.2.2.2.2.2.2.2.2.2.2.2.2.2.2.2.2.2.2.2.2.2.2.2.2.1, hS.2.2.2.2.2.2.2.2.2.2.2.2.2.2.2.2.2.2.2.2.2.2.2.2.2.2.2.2.2.2.2.1, hS.2.2.2.2.2.2.2.2.2.2.2.2.2.2.2.2.2.2.2.2.2.2.2.2.2.2.2.2.2.2.2.2.1⟩
  have v20 := u19.2
  have v21 := AV_pt (a := x) (k := 6) v20 (AV_in (z := (x + 26)) v20 (by omega) (by omega))
  have v22 := AV_nw v21
  have v23 := AV_pt (a := x) (k := 7) v22 (AV_in (z := (x + 33)) v22 (by omega) (by omega))
  refine ⟨?_, v23⟩
  refine zMt_of (by decide +kernel) rfl (Nat.le_of_ble_eq_true rfl) ?_
  show ZW _ _ _ _ _ _ _ _ _ 0 0 0 [some (.ref x)] [] M none _
  refine ZW_sm (pc' := 1) (ls' := [some (.ref x)]) (st' := [.ref x]) (s_aload_n rfl (dk_X10_init (0, .aload_n 0, 1) (List.mem_of_getElem? (i := 0) rfl))) (fun _ => rfl) ?_
  refine Z_obj cm_RX10_3 cb_oi cb_oc (by decide) (dk_X10_init (1, .invokespecial 3, 3) (List.mem_of_getElem? (i := 1) rfl)) ?_
  refine ZW_sm (pc' := 5) (ls' := [some (.ref x)]) (st' := [.ref x]) (s_aload_n rfl (dk_X10_init (4, .aload_n 0, 1) (List.mem_of_getElem? (i := 2) rfl))) (fun _ => rfl) ?_
  refine Z_new (ci := 3) (a := (x + 1)) hS.2.1 (by decide) (AV_fr v0 hf (by omega) (by omega)) (AV_fr v0 hf (by omega) (by omega)) (by omega) (AV_cl v0) ⟨by omega, trivial⟩ ⟨by omega, trivial⟩ cc_RX10_9 ci_3 cn_3 ⟨by decide, by decide⟩ (dk_X10_init (5, .new 9, 3) (List.mem_of_getElem? (i := 3) rfl)) ?_
  refine ZW_sm (pc' := 9) (ls' := [some (.ref x)]) (st' := [.ref (x + 1), .ref (x + 1), .ref x]) (s_dup (dk_X10_init (8, .dup, 1) (List.mem_of_getElem? (i := 4) rfl))) (fun _ => rfl) ?_
  refine ZW_sm (pc' := 10) (ls' := [some (.ref x)]) (st' := [.int 1, .ref (x + 1), .ref (x + 1), .ref x]) (s_iconst (v := 1) (by decide) (dk_X10_init (9, .iconst 1, 1) (List.mem_of_getElem? (i := 5) rfl))) (fun _ => rfl) ?_
  refine Z_callC (as := [.int 1]) (b := (x + 1)) (st := [.ref (x + 1), .ref x]) (lo := x + 2) u1.1 (AV_sub v0 v1 (by omega)) (AV_sub v1 v2 (by omega)) (AV_new v1 v2) ⟨by omega, ⟨by omega, trivial⟩⟩ ⟨by omega, trivial⟩ mi_X3_init (Or.inl cm_RX10_11) rfl ⟨by decide, by decide⟩ rfl ⟨by decide, by decide⟩ (dk_X10_init (10, .invokespecial 11, 3) (List.mem_of_getElem? (i := 6) rfl)) ?_
  refine Z_ptR (AV_in v2 (by omega) (by omega)) hS.1 (by decide) (by decide) rfl (Or.inr ⟨rfl, rfl, rfl⟩) (fun _ => rfl) (fun _ => rfl) cf_RX10_14 (dk_X10_init (13, .putfield 14, 3) (List.mem_of_getElem? (i := 7) rfl)) ?_
  refine ZW_sm (pc' := 17) (ls' := [some (.ref x)]) (st' := [.ref x]) (s_aload_n rfl (dk_X10_init (16, .aload_n 0, 1) (List.mem_of_getElem? (i := 8) rfl))) (fun _ => rfl) ?_
  refine Z_new (ci := 4) (a := (x + 3)) hS.2.2.2.1 (by decide) (AV_fr v3 hf (by omega) (by omega)) (AV_fr v0 hf (by omega) (by omega)) (by omega) (AV_cl v3) ⟨by omega, trivial⟩ ⟨by omega, trivial⟩ cc_RX10_20 ci_4 cn_4 ⟨by decide, by decide⟩ (dk_X10_init (17, .new 20, 3) (List.mem_of_getElem? (i := 9) rfl)) ?_
  refine ZW_sm (pc' := 21) (ls' := [some (.ref x)]) (st' := [.ref (x + 3), .ref (x + 3), .ref x]) (s_dup (dk_X10_init (20, .dup, 1) (List.mem_of_getElem? (i := 10) rfl))) (fun _ => rfl) ?_
  refine Z_callC (as := []) (b := (x + 3)) (st := [.ref (x + 3), .ref x]) (lo := x + 4) u4.1 (AV_sub v0 v4 (by omega)) (AV_sub v4 v5 (by omega)) (AV_new v4 v5) ⟨by omega, ⟨by omega, trivial⟩⟩ ⟨by omega, trivial⟩ mi_X4_init (Or.inr cm_RX10_22) rfl ⟨by decide, by decide⟩ rfl ⟨by decide, by decide⟩ (dk_X10_init (21, .invokespecial 22, 3) (List.mem_of_getElem? (i := 11) rfl)) ?_
  refine Z_ptR (AV_in v5 (by omega) (by omega)) hS.1 (by decide) (by decide) rfl (Or.inr ⟨rfl, rfl, rfl⟩) (fun _ => rfl) (fun _ => rfl) cf_RX10_23 (dk_X10_init (24, .putfield 23, 3) (List.mem_of_getElem? (i := 12) rfl)) ?_
  refine ZW_sm (pc' := 28) (ls' := [some (.ref x)]) (st' := [.ref x]) (s_aload_n rfl (dk_X10_init (27, .aload_n 0, 1) (List.mem_of_getElem? (i := 13) rfl))) (fun _ => rfl) ?_
  refine Z_new (ci := 7) (a := (x + 11)) hS.2.2.2.2.2.2.2.2.2.2.2.1 (by decide) (AV_fr v6 hf (by omega) (by omega)) (AV_fr v0 hf (by omega) (by omega)) (by omega) (AV_cl v6) ⟨by omega, trivial⟩ ⟨by omega, trivial⟩ cc_RX10_27 ci_7 cn_7 ⟨by decide, by decide⟩ (dk_X10_init (28, .new 27, 3) (List.mem_of_getElem? (i := 14) rfl)) ?_
  refine ZW_sm (pc' := 32) (ls' := [some (.ref x)]) (st' := [.ref (x + 11), .ref (x + 11), .ref x]) (s_dup (dk_X10_init (31, .dup, 1) (List.mem_of_getElem? (i := 15) rfl))) (fun _ => rfl) ?_
  refine Z_callC (as := []) (b := (x + 11)) (st := [.ref (x + 11), .ref x]) (lo := x + 12) u7.1 (AV_sub v0 v7 (by omega)) (AV_sub v7 v8 (by omega)) (AV_new v7 v8) ⟨by omega, ⟨by omega, trivial⟩⟩ ⟨by omega, trivial⟩ mi_X7_init (Or.inr cm_RX10_29) rfl ⟨by decide, by decide⟩ rfl ⟨by decide, by decide⟩ (dk_X10_init (32, .invokespecial 29, 3) (List.mem_of_getElem? (i := 16) rfl)) ?_
  refine Z_ptR (AV_in v8 (by omega) (by omega)) hS.1 (by decide) (by decide) rfl (Or.inr ⟨rfl, rfl, rfl⟩) (fun _ => rfl) (fun _ => rfl) cf_RX10_30 (dk_X10_init (35, .putfield 30, 3) (List.mem_of_getElem? (i := 17) rfl)) ?_
  refine ZW_sm (pc' := 39) (ls' := [some (.ref x)]) (st' := [.ref x]) (s_aload_n rfl (dk_X10_init (38, .aload_n 0, 1) (List.mem_of_getElem? (i := 18) rfl))) (fun _ => rfl) ?_
  refine Z_new (ci := 0) (a := (x + 14)) hS.2.2.2.2.2.2.2.2.2.2.2.2.2.2.1 (by decide) (AV_fr v9 hf (by omega) (by omega)) (AV_fr v0 hf (by omega) (by omega)) (by omega) (AV_cl v9) ⟨by omega, trivial⟩ ⟨by omega, trivial⟩ cc_RX10_34 ci_0 cn_0 ⟨by decide, by decide⟩ (dk_X10_init (39, .new 34, 3) (List.mem_of_getElem? (i := 19) rfl)) ?_
  refine ZW_sm (pc' := 43) (ls' := [some (.ref x)]) (st' := [.ref (x + 14), .ref (x + 14), .ref x]) (s_dup (dk_X10_init (42, .dup, 1) (List.mem_of_getElem? (i := 20) rfl))) (fun _ => rfl) ?_
  refine Z_callC (as := []) (b := (x + 14)) (st := [.ref (x + 14), .ref x]) (lo := x + 15) u10.1 (AV_sub v0 v10 (by omega)) (AV_sub v10 v11 (by omega)) (AV_new v10 v11) ⟨by omega, ⟨by omega, trivial⟩⟩ ⟨by omega, trivial⟩ mi_X0_init (Or.inr cm_RX10_36) rfl ⟨by decide, by decide⟩ rfl ⟨by decide, by decide⟩ (dk_X10_init (43, .invokespecial 36, 3) (List.mem_of_getElem? (i := 21) rfl)) ?_
  refine Z_ptR (AV_in v11 (by omega) (by omega)) hS.1 (by decide) (by decide) rfl (Or.inr ⟨rfl, rfl, rfl⟩) (fun _ => rfl) (fun _ => rfl) cf_RX10_37 (dk_X10_init (46, .putfield 37, 3) (List.mem_of_getElem? (i := 22) rfl)) ?_
  refine ZW_sm (pc' := 50) (ls' := [some (.ref x)]) (st' := [.ref x]) (s_aload_n rfl (dk_X10_init (49, .aload_n 0, 1) (List.mem_of_getElem? (i := 23) rfl))) (fun _ => rfl) ?_
  refine Z_new (ci := 1) (a := (x + 19)) hS.2.2.2.2.2.2.2.2.2.2.2.2.2.2.2.2.2.2.2.1 (by decide) (AV_fr v12 hf (by omega) (by omega)) (AV_fr v0 hf (by omega) (by omega)) (by omega) (AV_cl v12) ⟨by omega, trivial⟩ ⟨by omega, trivial⟩ cc_RX10_41 ci_1 cn_1 ⟨by decide, by decide⟩ (dk_X10_init (50, .new 41, 3) (List.mem_of_getElem? (i := 24) rfl)) ?_
  refine ZW_sm (pc' := 54) (ls' := [some (.ref x)]) (st' := [.ref (x + 19), .ref (x + 19), .ref x]) (s_dup (dk_X10_init (53, .dup, 1) (List.mem_of_getElem? (i := 25) rfl))) (fun _ => rfl) ?_
  refine Z_callC (as := []) (b := (x + 19)) (st := [.ref (x + 19), .ref x]) (lo := x + 20) u13.1 (AV_sub v0 v13 (by omega)) (AV_sub v13 v14 (by omega)) (AV_new v13 v14) ⟨by omega, ⟨by omega, trivial⟩⟩ ⟨by omega, trivial⟩ mi_X1_init (Or.inr cm_RX10_43) rfl ⟨by decide, by decide⟩ rfl ⟨by decide, by decide⟩ (dk_X10_init (54, .invokespecial 43, 3) (List.mem_of_getElem? (i := 26) rfl)) ?_
  refine Z_ptR (AV_in v14 (by omega) (by omega)) hS.1 (by decide) (by decide) rfl (Or.inr ⟨rfl, rfl, rfl⟩) (fun _ => rfl) (fun _ => rfl) cf_RX10_44 (dk_X10_init (57, .putfield 44, 3) (List.mem_of_getElem? (i := 27) rfl)) ?_
  refine ZW_sm (pc' := 61) (ls' := [some (.ref x)]) (st' := [.ref x]) (s_aload_n rfl (dk_X10_init (60, .aload_n 0, 1) (List.mem_of_getElem? (i := 28) rfl))) (fun _ => rfl) ?_
  refine Z_new (ci := 5) (a := (x + 21)) hS.2.2.2.2.2.2.2.2.2.2.2.2.2.2.2.2.2.2.2.2.2.1 (by decide) (AV_fr v15 hf (by omega) (by omega)) (AV_fr v0 hf (by omega) (by omega)) (by omega) (AV_cl v15) ⟨by omega, trivial⟩ ⟨by omega, trivial⟩ cc_RX10_48 ci_5 cn_5 ⟨by decide, by decide⟩ (dk_X10_init (61, .new 48, 3) (List.mem_of_getElem? (i := 29) rfl)) ?_
  refine ZW_sm (pc' := 65) (ls' := [some (.ref x)]) (st' := [.ref (x + 21), .ref (x + 21), .ref x]) (s_dup (dk_X10_init (64, .dup, 1) (List.mem_of_getElem? (i := 30) rfl))) (fun _ => rfl) ?_
  refine Z_callC (as := []) (b := (x + 21)) (st := [.ref (x + 21), .ref x]) (lo := x + 22) u16.1 (AV_sub v0 v16 (by omega)) (AV_sub v16 v17 (by omega)) (AV_new v16 v17) ⟨by omega, ⟨by omega, trivial⟩⟩ ⟨by omega, trivial⟩ mi_X5_init (Or.inr cm_RX10_50) rfl ⟨by decide, by decide⟩ rfl ⟨by decide, by decide⟩ (dk_X10_init (65, .invokespecial 50, 3) (List.mem_of_getElem? (i := 31) rfl)) ?_
  refine Z_ptR (AV_in v17 (by omega) (by omega)) hS.1 (by decide) (by decide) rfl (Or.inr ⟨rfl, rfl, rfl⟩) (fun _ => rfl) (fun _ => rfl) cf_RX10_51 (dk_X10_init (68, .putfield 51, 3) (List.mem_of_getElem? (i := 32) rfl)) ?_
  refine ZW_sm (pc' := 72) (ls' := [some (.ref x)]) (st' := [.ref x]) (s_aload_n rfl (dk_X10_init (71, .aload_n 0, 1) (List.mem_of_getElem? (i := 33) rfl))) (fun _ => rfl) ?_
  refine Z_new (ci := 6) (a := (x + 26)) hS.2.2.2.2.2.2.2.2.2.2.2.2.2.2.2.2.2.2.2.2.2.2.2.2.2.2.1 (by decide) (AV_fr v18 hf (by omega) (by omega)) (AV_fr v0 hf (by omega) (by omega)) (by omega) (AV_cl v18) ⟨by omega, trivial⟩ ⟨by omega, trivial⟩ cc_RX10_55 ci_6 cn_6 ⟨by decide, by decide⟩ (dk_X10_init (72, .new 55, 3) (List.mem_of_getElem? (i := 34) rfl)) ?_
  refine ZW_sm (pc' := 76) (ls' := [some (.ref x)]) (st' := [.ref (x + 26), .ref (x + 26), .ref x]) (s_dup (dk_X10_init (75, .dup, 1) (List.mem_of_getElem? (i := 35) rfl))) (fun _ => rfl) ?_
  refine Z_callC (as := []) (b := (x + 26)) (st := [.ref (x + 26), .ref x]) (lo := x + 27) u19.1 (AV_sub v0 v19 (by omega)) (AV_sub v19 v20 (by omega)) (AV_new v19 v20) ⟨by omega, ⟨by omega, trivial⟩⟩ ⟨by omega, trivial⟩ mi_X6_init (Or.inr cm_RX10_57) rfl ⟨by decide, by decide⟩ rfl ⟨by decide, by decide⟩ (dk_X10_init (76, .invokespecial 57, 3) (List.mem_of_getElem? (i := 36) rfl)) ?_
  refine Z_ptR (AV_in v20 (by omega) (by omega)) hS.1 (by decide) (by decide) rfl (Or.inr ⟨rfl, rfl, rfl⟩) (fun _ => rfl) (fun _ => rfl) cf_RX10_58 (dk_X10_init (79, .putfield 58, 3) (List.mem_of_getElem? (i := 37) rfl)) ?_
  refine ZW_sm (pc' := 83) (ls' := [some (.ref x)]) (st' := [.ref x]) (s_aload_n rfl (dk_X10_init (82, .aload_n 0, 1) (List.mem_of_getElem? (i := 38) rfl))) (fun _ => rfl) ?_
  refine ZW_sm (pc' := 84) (ls' := [some (.ref x)]) (st' := [.int 5, .ref x]) (s_iconst (v := 5) (by decide) (dk_X10_init (83, .iconst 5, 1) (List.mem_of_getElem? (i := 39) rfl))) (fun _ => rfl) ?_
  refine Z_nwL (a := (x + 33)) (n := 5) hS.2.2.2.2.2.2.2.2.2.2.2.2.2.2.2.2.2.2.2.2.2.2.2.2.2.2.2.2.2.2.2.2.2 (by decide) (by decide) (by decide) (AV_fr v21 hf (by omega) (by omega)) (AV_fr v0 hf (by omega) (by omega)) (by omega) (AV_cl v21) ⟨by omega, trivial⟩ ⟨by omega, trivial⟩ cb_al ⟨by decide, by decide⟩ (dk_X10_init (84, .newarray .long, 2) (List.mem_of_getElem? (i := 40) rfl)) ?_
  refine Z_ptR (AV_in v22 (by omega) (by omega)) hS.1 (by decide) (by decide) rfl (Or.inr ⟨rfl, rfl, rfl⟩) (fun _ => rfl) (fun _ => rfl) cf_RX10_62 (dk_X10_init (86, .putfield 62, 3) (List.mem_of_getElem? (i := 41) rfl)) ?_
  exact ZW_rt (s_vret rfl rfl rfl (dk_X10_init (89, .return_, 1) (List.mem_of_getElem? (i := 42) rfl))) (fun _ => rfl)
def dl_X8_init : List (Nat × Instr × Nat) := [(0, .aload_n 0, 1), (1, .invokespecial 1, 3), (4, .aload_n 0, 1), (5, .bipush 6, 2), (7, .anewarray 9, 3), (10, .putfield 11, 3), (13, .iconst 0, 1), (14, .istore_n 1, 1), (15, .iload_n 1, 1), (16, .bipush 6, 2), (18, .if_icmp .ge 23, 3), (21, .aload_n 0, 1), (22, .getfield 11, 3), (25, .iload_n 1, 1), (26, .new 9, 3), (29, .dup, 1), (30, .iconst 0, 1), (31, .invokespecial 15, 3), (34, .aastore, 1), (35, .iinc 1 1, 3), (38, .goto (-23), 3), (41, .return_, 1)]
set_option maxRecDepth 20000 in
theorem dk_X8_init : ∀ q ∈ dl_X8_init, decode cX8_init q.1 = .ok q.2 := by decide +kernel
theorem cm_RX8_1 : Cond.methodLink RX8 1 Lib.objectInit ∈ zG := zGt2 96 (by decide +kernel) rfl
theorem cc_RX8_9 : Cond.classLink RX8 9 (zcl 3).1 ∈ zG := zGt2 97 (by decide +kernel) rfl
theorem cf_RX8_11 : Cond.fieldLink RX8 11 ((zcl 8).2.1 0).1 ((zcl 8).2.1 0).2.1 ((zcl 8).2.1 0).2.2.1 ∈ zG := zGt2 100 (by decide +kernel) rfl
theorem cm_RX8_15 : zMl RX8 15 yX3_init := zGt2 99 (by decide +kernel) rfl
/-- the steps' courts, one by one -/
def stN (x j : Nat) (M : ZM) : ZM := ptR (mkX3_init (x + 2 + 2 * j) 0 (nw M (x + 2 + 2 * j))) (x + 1) j (x + 2 + 2 * j)
def stI (x : Nat) (M : ZM) : Nat → ZM
  | 0 => ptR (nw M (x + 1)) x 0 (x + 1)
  | j + 1 => stN x j (stI x M j)
def mkX8_init (x : Nat) (M : ZM) : ZM := stI x M 6
theorem mkX3_R {y k a : Nat} {w : Int32} {M : ZM} (h : a ≠ y) (h2 : a ≠ y + 1) : (mkX3_init y w M).2.2.1 a k = M.2.2.1 a k := by
  show zuR (zrR M.2.2.1 (y + 1) (fun _ => none)) y 1 (some (y + 1)) a k = _
  rw [zuR_ne h, zrR_ne h2]
theorem stI_R {x j : Nat} {M : ZM} : (stI x M j).2.2.1 x 0 = some (x + 1) := by
  induction j with
  | zero =>
    show zuR (zrR M.2.2.1 (x + 1) (fun _ => none)) x 0 (some (x + 1)) x 0 = _
    rw [zuR_row]
    rfl
  | succ j ih =>
    show zuR (mkX3_init (x + 2 + 2 * j) 0 (nw (stI x M j) (x + 2 + 2 * j))).2.2.1 (x + 1) j (some (x + 2 + 2 * j)) x 0 = _
    rw [zuR_ne (by omega), mkX3_R (by omega) (by omega)]
    show zrR (stI x M j).2.2.1 (x + 2 + 2 * j) (fun _ => none) x 0 = _
    rw [zrR_ne (by omega)]
    exact ih
def stS (x : Nat) : Prop := zS x = (1, 8) ∧ zS (x + 1) = (4, 6) ∧ ∀ j, j < 6 → zS (x + 2 + 2 * j) = (1, 3) ∧ zS (x + 2 + 2 * j + 1) = (2, 70)
theorem stI_AV {M : ZM} {V1 : List Nat} {b x : Nat} (hv : AVx M V1 b (x + 1)) (hbx : b ≤ x) (hf : FRx V1 b (x + 1 + 13)) (h1000 : x + 1 + 13 ≤ 1000) (hS : stS x) : ∀ j, j ≤ 6 → AVx (stI x M j) V1 b (x + 2 + 2 * j) := by
  intro j
  induction j with
  | zero =>
    intro _
    exact AV_pt (AV_nw hv) (AV_in (AV_nw hv) (by omega) (by omega))
  | succ j ih =>
    intro hj
    have v1 := AV_nw (ih (by omega))
    have u1 := ct_X3_init (x := x + 2 + 2 * j) (w := 0) (Or.inl rfl) v1 (by omega) (fun z z1 z2 => hf z z1 (by omega)) (by omega) (hS.2.2 j (by omega))
    have v2 := u1.2
    have v3 := AV_pt (a := x + 1) (k := j) v2 (AV_in (z := x + 2 + 2 * j) v2 (by omega) (by omega))
    rw [show x + 2 + 2 * j + 1 + 1 = x + 2 + 2 * (j + 1) from by omega] at v3
    exact v3
set_option maxRecDepth 20000 in
theorem st_it {M M' : ZM} {V1 V0 : List Nat} {b x j : Nat} (hv : AVx M V1 b (x + 2 + 2 * j)) (hR : M.2.2.1 x 0 = some (x + 1)) (hj : j < 6) (hbx : b ≤ x) (hf : FRx V1 b (x + 1 + 13)) (h1000 : x + 1 + 13 ≤ 1000) (hS : stS x) (hV0 : ∀ z ∈ V0, z ∈ M.2.2.2) (hV0f : ∀ z, x + 1 ≤ z → z < x + 14 → z ∉ V0)
    (h : ZW RX8 "<init>" cX8_init 2 none 2 13 504 V0 (1 + 2 * (j + 1)) (6 + 83 * (j + 1)) 15 [some (.ref x), some (.int (nI (j + 1)))] [] (stN x j M) none M') : ZW RX8 "<init>" cX8_init 2 none 2 13 504 V0 (1 + 2 * j) (6 + 83 * j) 15 [some (.ref x), some (.int (nI j))] [] M none M' := by
  have v1 := AV_nw hv
  have u1 := ct_X3_init (x := x + 2 + 2 * j) (w := 0) (Or.inl rfl) v1 (by omega) (fun z z1 z2 => hf z z1 (by omega)) (by omega) (hS.2.2 j hj)
  have v2 := u1.2
  have hc : cLt (nI j) 6 = true := clT (c := 6) (n := 6) rfl hj (by omega)
  refine ZW_st (s_iload_n rfl (dk_X8_init (15, .iload_n 1, 1) (List.mem_of_getElem? (i := 8) rfl))) (fun _ => rfl) ?_
  refine ZW_st (s_bipush (v := 6) (by decide) (dk_X8_init (16, .bipush 6, 2) (List.mem_of_getElem? (i := 9) rfl))) (fun _ => rfl) ?_
  refine ZW_st (s_cmge (pc := 18) (t := 41) (by decide) (dk_X8_init (18, .if_icmp .ge 23, 3) (List.mem_of_getElem? (i := 10) rfl))) (fun nx => a_cmT hc) ?_
  refine ZW_st (s_aload_n rfl (dk_X8_init (21, .aload_n 0, 1) (List.mem_of_getElem? (i := 11) rfl))) (fun _ => rfl) ?_
  refine Z_get (AV_in hv (by omega) (by omega)) hS.1 (by decide) (by decide) (Or.inl cf_RX8_11) (dk_X8_init (22, .getfield 11, 3) (List.mem_of_getElem? (i := 12) rfl)) ?_
  rw [if_pos (show zIsR 8 0 = true from rfl), hR]
  refine ZW_st (s_iload_n rfl (dk_X8_init (25, .iload_n 1, 1) (List.mem_of_getElem? (i := 13) rfl))) (fun _ => rfl) ?_
  refine Z_new (ci := 3) (a := x + 2 + 2 * j) (hS.2.2 j hj).1 (by decide) (AV_fr hv hf (by omega) (by omega)) (hV0f _ (by omega) (by omega)) (by omega) (AV_cl hv) ⟨by omega, trivial⟩ ⟨by omega, trivial⟩ cc_RX8_9 ci_3 cn_3 ⟨by omega, by show 6 + 83 * j + 13 ≤ 504; omega⟩ (dk_X8_init (26, .new 9, 3) (List.mem_of_getElem? (i := 14) rfl)) ?_
  refine ZW_st (s_dup (dk_X8_init (29, .dup, 1) (List.mem_of_getElem? (i := 15) rfl))) (fun _ => rfl) ?_
  refine ZW_st (s_iconst (v := 0) (by decide) (dk_X8_init (30, .iconst 0, 1) (List.mem_of_getElem? (i := 16) rfl))) (fun _ => rfl) ?_
  refine Z_callC (as := [.int 0]) (b := x + 2 + 2 * j) (st := [.ref (x + 2 + 2 * j), .int (nI j), .ref (x + 1)]) (lo := x + 2 + 2 * j + 1) u1.1 (fun z hz => AV_sub hv v1 (by omega) z (hV0 z hz)) (AV_sub v1 v2 (by omega)) (AV_new v1 v2) ⟨by omega, by omega, trivial⟩ ⟨by omega, trivial⟩ mi_X3_init (Or.inl cm_RX8_15) rfl ⟨by decide, by decide⟩ rfl ⟨by omega, by show 6 + 83 * j + 13 + 70 ≤ 504; omega⟩ (dk_X8_init (31, .invokespecial 15, 3) (List.mem_of_getElem? (i := 17) rfl)) ?_
  refine Z_aasK (AV_in v2 (by omega) (by omega)) hS.2.1 (AV_in v2 (by omega) (by omega)) (hS.2.2 j hj).1 (zb_in (by rw [zb_nI (by omega), decide_eq_true hj])) (j := j) (zx_nI (by omega)) (dk_X8_init (34, .aastore, 1) (List.mem_of_getElem? (i := 18) rfl)) ?_
  refine ZW_st (s_iinc (k := 1) (by decide) (by decide) (dk_X8_init (35, .iinc 1 1, 3) (List.mem_of_getElem? (i := 19) rfl))) (fun _ => rfl) ?_
  refine ZW_st (s_goto (pc := 38) (t := 15) (by decide) (dk_X8_init (38, .goto (-23), 3) (List.mem_of_getElem? (i := 20) rfl))) (fun _ => rfl) ?_
  rw [← nI_s1] at h
  have ec : 1 + 2 * j + 1 + 1 = 1 + 2 * (j + 1) := by omega
  have es : 6 + 83 * j + (zcl 3).2.2 + 70 = 6 + 83 * (j + 1) := by
    show 6 + 83 * j + 13 + 70 = _
    omega
  rw [ec, es]
  exact h
set_option maxRecDepth 20000 in
theorem ct_X8_init {M : ZM} {V1 : List Nat} {b x : Nat} (hv : AVx M V1 b (x + 1)) (hbx : b ≤ x) (hf : FRx V1 b (x + 1 + 13)) (h1000 : x + 1 + 13 ≤ 1000) (hS : stS x) : zMt yX8_init cX8_init 2 none 2 13 504 [.ref x] M none (mkX8_init x M) ∧ AVx (mkX8_init x M) V1 b (x + 1 + 13) := by
  have av := stI_AV hv hbx hf h1000 hS
  refine ⟨?_, by
    have q := av 6 (by omega)
    rw [show x + 2 + 2 * 6 = x + 1 + 13 from by omega] at q
    exact q⟩
  have v1 := AV_nw hv
  have hV0 : ∀ j, j ≤ 6 → ∀ z ∈ M.2.2.2, z ∈ (stI x M j).2.2.2 := fun j hj => AV_sub hv (av j hj) (by omega)
  have hV0f : ∀ z, x + 1 ≤ z → z < x + 14 → z ∉ M.2.2.2 := fun z z1 z2 => AV_fr hv hf z1 (by omega)
  have loop : ∀ k j, j + k = 6 → ZW RX8 "<init>" cX8_init 2 none 2 13 504 M.2.2.2 (1 + 2 * j) (6 + 83 * j) 15 [some (.ref x), some (.int (nI j))] [] (stI x M j) none (mkX8_init x M) := by
    intro k
    induction k with
    | zero =>
      intro j hj
      have e : j = 6 := by omega
      subst e
      refine ZW_st (s_iload_n rfl (dk_X8_init (15, .iload_n 1, 1) (List.mem_of_getElem? (i := 8) rfl))) (fun _ => rfl) ?_
      refine ZW_st (s_bipush (v := 6) (by decide) (dk_X8_init (16, .bipush 6, 2) (List.mem_of_getElem? (i := 9) rfl))) (fun _ => rfl) ?_
      refine ZW_st (s_cmge (pc := 18) (t := 41) (by decide) (dk_X8_init (18, .if_icmp .ge 23, 3) (List.mem_of_getElem? (i := 10) rfl))) (fun nx => a_cmF (by decide)) ?_
      exact ZW_rt (s_vret rfl rfl rfl (dk_X8_init (41, .return_, 1) (List.mem_of_getElem? (i := 21) rfl))) (fun _ => rfl)
    | succ k ih =>
      intro j hj
      exact st_it (av j (by omega)) stI_R (by omega) hbx hf h1000 hS (hV0 j (by omega)) hV0f (ih (j + 1) (by omega))
  refine zMt_of (by decide +kernel) rfl (Nat.le_of_ble_eq_true rfl) ?_
  show ZW _ _ _ _ _ _ _ _ _ 0 0 0 [some (.ref x), none] [] M none _
  refine ZW_st (s_aload_n rfl (dk_X8_init (0, .aload_n 0, 1) (List.mem_of_getElem? (i := 0) rfl))) (fun _ => rfl) ?_
  refine Z_obj cm_RX8_1 cb_oi cb_oc (by decide) (dk_X8_init (1, .invokespecial 1, 3) (List.mem_of_getElem? (i := 1) rfl)) ?_
  refine ZW_st (s_aload_n rfl (dk_X8_init (4, .aload_n 0, 1) (List.mem_of_getElem? (i := 2) rfl))) (fun _ => rfl) ?_
  refine ZW_st (s_bipush (v := 6) (by decide) (dk_X8_init (5, .bipush 6, 2) (List.mem_of_getElem? (i := 3) rfl))) (fun _ => rfl) ?_
  refine Z_nwQ (a := x + 1) (n := 6) hS.2.1 (by decide) (by decide) (by decide) (AV_fr hv hf (by omega) (by omega)) (AV_fr hv hf (by omega) (by omega)) (by omega) (AV_cl hv) ⟨by omega, trivial⟩ ⟨by omega, trivial⟩ cc_RX8_9 ⟨by decide, by decide⟩ (dk_X8_init (7, .anewarray 9, 3) (List.mem_of_getElem? (i := 4) rfl)) ?_
  refine Z_ptR (AV_in v1 (by omega) (by omega)) hS.1 (by decide) (by decide) rfl (Or.inr ⟨rfl, rfl, rfl⟩) (fun _ => rfl) (fun _ => rfl) cf_RX8_11 (dk_X8_init (10, .putfield 11, 3) (List.mem_of_getElem? (i := 5) rfl)) ?_
  refine ZW_st (s_iconst (v := 0) (by decide) (dk_X8_init (13, .iconst 0, 1) (List.mem_of_getElem? (i := 6) rfl))) (fun _ => rfl) ?_
  refine ZW_st (s_istore_n rfl (by decide) (dk_X8_init (14, .istore_n 1, 1) (List.mem_of_getElem? (i := 7) rfl))) (fun _ => rfl) ?_
  exact loop 6 0 rfl
