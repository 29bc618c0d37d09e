/-! image: its paths, printed by mk75.py -/
def dl_pX11_image : List (Nat × Instr × Nat) := [(0, .iload_n 1, 1), (1, .ifCond .eq 35, 3), (4, .aload_n 0, 1), (5, .getfield 326, 3), (8, .ifnonnull 14, 3), (11, .aload_n 0, 1), (12, .new 16, 3), (15, .dup, 1), (16, .invokespecial 18, 3), (19, .putfield 326, 3), (22, .aload_n 0, 1), (23, .getfield 326, 3), (26, .aload_n 0, 1), (27, .getfield 19, 3), (30, .invokevirtual 329, 3), (33, .goto 28, 3), (36, .aload_n 0, 1), (37, .getfield 326, 3), (40, .ifnull 21, 3), (43, .aload_n 0, 1), (44, .getfield 19, 3), (47, .aload_n 0, 1), (48, .getfield 326, 3), (51, .invokevirtual 329, 3), (54, .aload_n 0, 1), (55, .getfield 35, 3), (58, .invokevirtual 67, 3), (61, .aload_n 0, 1), (62, .getfield 326, 3), (65, .ifnull 7, 3), (68, .iconst 1, 1), (69, .goto 4, 3), (72, .iconst 0, 1), (73, .ireturn, 1)]
set_option maxRecDepth 20000 in
theorem dk_pX11_image : ∀ q ∈ dl_pX11_image, decode cX11_image q.1 = .ok q.2 := by decide +kernel
set_option maxRecDepth 20000 in
theorem pa_imgn {v : Bool} {M : zM}  : zMt yX11_image cX11_image 2 (some .boolean) 3 34 2455 [.ref 0, .int 0] (zem (false, v) M) (some (.int 0)) (zem (false, v) M) := by
  refine zMt_of (by decide +kernel) rfl (Nat.le_of_ble_eq_true rfl) ?_
  show ZW _ _ _ _ _ _ _ _ _ 0 0 0 [some (.ref 0), some (.int 0)] [] (zem (false, v) M) _ _
  refine ZW_sm (pc' := 1) (ls' := [some (.ref 0), some (.int 0)]) (st' := [.int 0]) (s_iload_n rfl (dk_pX11_image (0, .iload_n 1, 1) (List.mem_of_getElem? (i := 0) rfl))) (fun _ => rfl) ?_
  refine ZW_sm (pc' := 36) (ls' := [some (.ref 0), some (.int 0)]) (st' := []) (s_ifeq (pc := 1) (t := 36) (by decide) (dk_pX11_image (1, .ifCond .eq 35, 3) (List.mem_of_getElem? (i := 1) rfl))) (fun _ => a_ifT rfl) ?_
  refine ZW_sm (pc' := 37) (ls' := [some (.ref 0), some (.int 0)]) (st' := [.ref 0]) (s_aload_n rfl (dk_pX11_image (36, .aload_n 0, 1) (List.mem_of_getElem? (i := 16) rfl))) (fun _ => rfl) ?_
  refine Z_get (em_in (by omega)) (ci := 11) (k := 7) rfl (by decide) (by decide) (Or.inl cf_RX11_326) (dk_pX11_image (37, .getfield 326, 3) (List.mem_of_getElem? (i := 17) rfl)) ?_
  show ZW _ _ _ _ _ _ _ _ _ _ _ 40 _ [.null] _ _ _
  refine ZW_sm (pc' := 61) (ls' := [some (.ref 0), some (.int 0)]) (st' := []) (s_ifnull (pc := 40) (t := 61) (by decide) (dk_pX11_image (40, .ifnull 21, 3) (List.mem_of_getElem? (i := 18) rfl))) (fun _ => rfl) ?_
  refine ZW_sm (pc' := 62) (ls' := [some (.ref 0), some (.int 0)]) (st' := [.ref 0]) (s_aload_n rfl (dk_pX11_image (61, .aload_n 0, 1) (List.mem_of_getElem? (i := 27) rfl))) (fun _ => rfl) ?_
  refine Z_get (em_in (by omega)) (ci := 11) (k := 7) rfl (by decide) (by decide) (Or.inl cf_RX11_326) (dk_pX11_image (62, .getfield 326, 3) (List.mem_of_getElem? (i := 28) rfl)) ?_
  show ZW _ _ _ _ _ _ _ _ _ _ _ 65 _ [.null] _ _ _
  refine ZW_sm (pc' := 72) (ls' := [some (.ref 0), some (.int 0)]) (st' := []) (s_ifnull (pc := 65) (t := 72) (by decide) (dk_pX11_image (65, .ifnull 7, 3) (List.mem_of_getElem? (i := 29) rfl))) (fun _ => rfl) ?_
  refine ZW_sm (pc' := 73) (ls' := [some (.ref 0), some (.int 0)]) (st' := [.int 0]) (s_iconst (v := 0) (by decide) (dk_pX11_image (72, .iconst 0, 1) (List.mem_of_getElem? (i := 32) rfl))) (fun _ => rfl) ?_
  exact ZW_wide (k := 34) (n := 2455) (by decide) (by decide) (ZW_rt (s_zret rfl rfl rfl (dk_pX11_image (73, .ireturn, 1) (List.mem_of_getElem? (i := 33) rfl))) (fun _ => rfl))
theorem lc_RX11_329 : zMl RX11 329 yX10_take := zGt5 207 (by decide +kernel) rfl
set_option maxRecDepth 20000 in
theorem pa_imgb {v : Bool} {M M2 M3 : zM} (hg1 : ((true, v) : zg).1 = true) (hk : X_X10_take (true, v) [.ref 6, .ref 206] M = some (none, M2)) (hq : X_X8_forget (true, v) [.ref 42] M2 = some (none, M3)) : zMt yX11_image cX11_image 2 (some .boolean) 3 34 2455 [.ref 0, .int 0] (zem (true, v) M) (some (.int 1)) (zem (true, v) M3) := by
  refine zMt_of (by decide +kernel) rfl (Nat.le_of_ble_eq_true rfl) ?_
  show ZW _ _ _ _ _ _ _ _ _ 0 0 0 [some (.ref 0), some (.int 0)] [] (zem (true, v) M) _ _
  refine ZW_sm (pc' := 1) (ls' := [some (.ref 0), some (.int 0)]) (st' := [.int 0]) (s_iload_n rfl (dk_pX11_image (0, .iload_n 1, 1) (List.mem_of_getElem? (i := 0) rfl))) (fun _ => rfl) ?_
  refine ZW_sm (pc' := 36) (ls' := [some (.ref 0), some (.int 0)]) (st' := []) (s_ifeq (pc := 1) (t := 36) (by decide) (dk_pX11_image (1, .ifCond .eq 35, 3) (List.mem_of_getElem? (i := 1) rfl))) (fun _ => a_ifT rfl) ?_
  refine ZW_sm (pc' := 37) (ls' := [some (.ref 0), some (.int 0)]) (st' := [.ref 0]) (s_aload_n rfl (dk_pX11_image (36, .aload_n 0, 1) (List.mem_of_getElem? (i := 16) rfl))) (fun _ => rfl) ?_
  refine Z_get (em_in (by omega)) (ci := 11) (k := 7) rfl (by decide) (by decide) (Or.inl cf_RX11_326) (dk_pX11_image (37, .getfield 326, 3) (List.mem_of_getElem? (i := 17) rfl)) ?_
  show ZW _ _ _ _ _ _ _ _ _ _ _ 40 _ [.ref 206] _ _ _
  refine ZW_sm (pc' := 43) (ls' := [some (.ref 0), some (.int 0)]) (st' := []) (s_ifnull (pc := 40) (t := 61) (by decide) (dk_pX11_image (40, .ifnull 21, 3) (List.mem_of_getElem? (i := 18) rfl))) (fun _ => rfl) ?_
  refine ZW_sm (pc' := 44) (ls' := [some (.ref 0), some (.int 0)]) (st' := [.ref 0]) (s_aload_n rfl (dk_pX11_image (43, .aload_n 0, 1) (List.mem_of_getElem? (i := 19) rfl))) (fun _ => rfl) ?_
  refine Z_get (em_in (by omega)) (ci := 11) (k := 1) rfl (by decide) (by decide) (Or.inl lf_RX11_19) (dk_pX11_image (44, .getfield 19, 3) (List.mem_of_getElem? (i := 20) rfl)) ?_
  show ZW _ _ _ _ _ _ _ _ _ _ _ 47 _ [.ref 6] _ _ _
  refine ZW_sm (pc' := 48) (ls' := [some (.ref 0), some (.int 0)]) (st' := [.ref 0, .ref 6]) (s_aload_n rfl (dk_pX11_image (47, .aload_n 0, 1) (List.mem_of_getElem? (i := 21) rfl))) (fun _ => rfl) ?_
  refine Z_get (em_in (by omega)) (ci := 11) (k := 7) rfl (by decide) (by decide) (Or.inl cf_RX11_326) (dk_pX11_image (48, .getfield 326, 3) (List.mem_of_getElem? (i := 22) rfl)) ?_
  show ZW _ _ _ _ _ _ _ _ _ _ _ 51 _ [.ref 206, .ref 6] _ _ _
  refine Z_callV (M := zem (true, v) M) (as := [.ref 206]) (b := 6) (st := []) (mt_X10_take _ _ _ _ hk) rfl (em_in (by omega)) (ci := 10) rfl (by decide) rfl mv_X10_take lc_RX11_329 rfl ⟨by decide, by decide⟩ rfl ⟨by decide, by decide⟩ (dk_pX11_image (51, .invokevirtual 329, 3) (List.mem_of_getElem? (i := 23) rfl)) ?_
  show ZW _ _ _ _ _ _ _ _ _ _ _ 54 [some (.ref 0), some (.int 0)] [] _ _ _
  refine ZW_sm (pc' := 55) (ls' := [some (.ref 0), some (.int 0)]) (st' := [.ref 0]) (s_aload_n rfl (dk_pX11_image (54, .aload_n 0, 1) (List.mem_of_getElem? (i := 24) rfl))) (fun _ => rfl) ?_
  refine Z_get (em_in (by omega)) (ci := 11) (k := 3) rfl (by decide) (by decide) (Or.inl lf_RX11_35) (dk_pX11_image (55, .getfield 35, 3) (List.mem_of_getElem? (i := 25) rfl)) ?_
  show ZW _ _ _ _ _ _ _ _ _ _ _ 58 _ [.ref 42] _ _ _
  refine Z_callV (M := zem (true, v) M2) (as := []) (b := 42) (st := []) (mt_X8_forget _ _ _ _ hq) rfl (em_in (by omega)) (ci := 8) rfl (by decide) rfl mv_X8_forget lm_RX11_67 rfl ⟨by decide, by decide⟩ rfl ⟨by decide, by decide⟩ (dk_pX11_image (58, .invokevirtual 67, 3) (List.mem_of_getElem? (i := 26) rfl)) ?_
  show ZW _ _ _ _ _ _ _ _ _ _ _ 61 [some (.ref 0), some (.int 0)] [] _ _ _
  refine ZW_sm (pc' := 62) (ls' := [some (.ref 0), some (.int 0)]) (st' := [.ref 0]) (s_aload_n rfl (dk_pX11_image (61, .aload_n 0, 1) (List.mem_of_getElem? (i := 27) rfl))) (fun _ => rfl) ?_
  refine Z_get (em_in (by omega)) (ci := 11) (k := 7) rfl (by decide) (by decide) (Or.inl cf_RX11_326) (dk_pX11_image (62, .getfield 326, 3) (List.mem_of_getElem? (i := 28) rfl)) ?_
  show ZW _ _ _ _ _ _ _ _ _ _ _ 65 _ [.ref 206] _ _ _
  refine ZW_sm (pc' := 68) (ls' := [some (.ref 0), some (.int 0)]) (st' := []) (s_ifnull (pc := 65) (t := 72) (by decide) (dk_pX11_image (65, .ifnull 7, 3) (List.mem_of_getElem? (i := 29) rfl))) (fun _ => rfl) ?_
  refine ZW_sm (pc' := 69) (ls' := [some (.ref 0), some (.int 0)]) (st' := [.int 1]) (s_iconst (v := 1) (by decide) (dk_pX11_image (68, .iconst 1, 1) (List.mem_of_getElem? (i := 30) rfl))) (fun _ => rfl) ?_
  refine ZW_sm (pc' := 73) (ls' := [some (.ref 0), some (.int 0)]) (st' := [.int 1]) (s_goto (pc := 69) (t := 73) (by decide) (dk_pX11_image (69, .goto 4, 3) (List.mem_of_getElem? (i := 31) rfl))) (fun _ => rfl) ?_
  exact ZW_wide (k := 34) (n := 2455) (by decide) (by decide) (ZW_rt (s_zret rfl rfl rfl (dk_pX11_image (73, .ireturn, 1) (List.mem_of_getElem? (i := 33) rfl))) (fun _ => rfl))
set_option maxRecDepth 20000 in
theorem pa_imgt {v : Bool} {M M2 : zM} (hg1 : ((true, v) : zg).1 = true) (hk : X_X10_take (true, v) [.ref 206, .ref 6] M = some (none, M2)) : zMt yX11_image cX11_image 2 (some .boolean) 3 34 2455 [.ref 0, .int 1] (zem (true, v) M) (some (.int 1)) (zem (true, v) M2) := by
  refine zMt_of (by decide +kernel) rfl (Nat.le_of_ble_eq_true rfl) ?_
  show ZW _ _ _ _ _ _ _ _ _ 0 0 0 [some (.ref 0), some (.int 1)] [] (zem (true, v) M) _ _
  refine ZW_sm (pc' := 1) (ls' := [some (.ref 0), some (.int 1)]) (st' := [.int 1]) (s_iload_n rfl (dk_pX11_image (0, .iload_n 1, 1) (List.mem_of_getElem? (i := 0) rfl))) (fun _ => rfl) ?_
  refine ZW_sm (pc' := 4) (ls' := [some (.ref 0), some (.int 1)]) (st' := []) (s_ifeq (pc := 1) (t := 36) (by decide) (dk_pX11_image (1, .ifCond .eq 35, 3) (List.mem_of_getElem? (i := 1) rfl))) (fun _ => a_ifF rfl) ?_
  refine ZW_sm (pc' := 5) (ls' := [some (.ref 0), some (.int 1)]) (st' := [.ref 0]) (s_aload_n rfl (dk_pX11_image (4, .aload_n 0, 1) (List.mem_of_getElem? (i := 2) rfl))) (fun _ => rfl) ?_
  refine Z_get (em_in (by omega)) (ci := 11) (k := 7) rfl (by decide) (by decide) (Or.inl cf_RX11_326) (dk_pX11_image (5, .getfield 326, 3) (List.mem_of_getElem? (i := 3) rfl)) ?_
  show ZW _ _ _ _ _ _ _ _ _ _ _ 8 _ [.ref 206] _ _ _
  refine ZW_sm (pc' := 22) (ls' := [some (.ref 0), some (.int 1)]) (st' := []) (s_ifnonnull (pc := 8) (t := 22) (by decide) (dk_pX11_image (8, .ifnonnull 14, 3) (List.mem_of_getElem? (i := 4) rfl))) (fun _ => rfl) ?_
  refine ZW_sm (pc' := 23) (ls' := [some (.ref 0), some (.int 1)]) (st' := [.ref 0]) (s_aload_n rfl (dk_pX11_image (22, .aload_n 0, 1) (List.mem_of_getElem? (i := 10) rfl))) (fun _ => rfl) ?_
  refine Z_get (em_in (by omega)) (ci := 11) (k := 7) rfl (by decide) (by decide) (Or.inl cf_RX11_326) (dk_pX11_image (23, .getfield 326, 3) (List.mem_of_getElem? (i := 11) rfl)) ?_
  show ZW _ _ _ _ _ _ _ _ _ _ _ 26 _ [.ref 206] _ _ _
  refine ZW_sm (pc' := 27) (ls' := [some (.ref 0), some (.int 1)]) (st' := [.ref 0, .ref 206]) (s_aload_n rfl (dk_pX11_image (26, .aload_n 0, 1) (List.mem_of_getElem? (i := 12) rfl))) (fun _ => rfl) ?_
  refine Z_get (em_in (by omega)) (ci := 11) (k := 1) rfl (by decide) (by decide) (Or.inl lf_RX11_19) (dk_pX11_image (27, .getfield 19, 3) (List.mem_of_getElem? (i := 13) rfl)) ?_
  show ZW _ _ _ _ _ _ _ _ _ _ _ 30 _ [.ref 6, .ref 206] _ _ _
  refine Z_callV (M := zem (true, v) M) (as := [.ref 6]) (b := 206) (st := []) (mt_X10_take _ _ _ _ hk) rfl (zVs_mem.2 (Or.inr (Or.inl ⟨hg1, by omega, by omega⟩))) (ci := 10) rfl (by decide) rfl mv_X10_take lc_RX11_329 rfl ⟨by decide, by decide⟩ rfl ⟨by decide, by decide⟩ (dk_pX11_image (30, .invokevirtual 329, 3) (List.mem_of_getElem? (i := 14) rfl)) ?_
  show ZW _ _ _ _ _ _ _ _ _ _ _ 33 [some (.ref 0), some (.int 1)] [] _ _ _
  refine ZW_sm (pc' := 61) (ls' := [some (.ref 0), some (.int 1)]) (st' := []) (s_goto (pc := 33) (t := 61) (by decide) (dk_pX11_image (33, .goto 28, 3) (List.mem_of_getElem? (i := 15) rfl))) (fun _ => rfl) ?_
  refine ZW_sm (pc' := 62) (ls' := [some (.ref 0), some (.int 1)]) (st' := [.ref 0]) (s_aload_n rfl (dk_pX11_image (61, .aload_n 0, 1) (List.mem_of_getElem? (i := 27) rfl))) (fun _ => rfl) ?_
  refine Z_get (em_in (by omega)) (ci := 11) (k := 7) rfl (by decide) (by decide) (Or.inl cf_RX11_326) (dk_pX11_image (62, .getfield 326, 3) (List.mem_of_getElem? (i := 28) rfl)) ?_
  show ZW _ _ _ _ _ _ _ _ _ _ _ 65 _ [.ref 206] _ _ _
  refine ZW_sm (pc' := 68) (ls' := [some (.ref 0), some (.int 1)]) (st' := []) (s_ifnull (pc := 65) (t := 72) (by decide) (dk_pX11_image (65, .ifnull 7, 3) (List.mem_of_getElem? (i := 29) rfl))) (fun _ => rfl) ?_
  refine ZW_sm (pc' := 69) (ls' := [some (.ref 0), some (.int 1)]) (st' := [.int 1]) (s_iconst (v := 1) (by decide) (dk_pX11_image (68, .iconst 1, 1) (List.mem_of_getElem? (i := 30) rfl))) (fun _ => rfl) ?_
  refine ZW_sm (pc' := 73) (ls' := [some (.ref 0), some (.int 1)]) (st' := [.int 1]) (s_goto (pc := 69) (t := 73) (by decide) (dk_pX11_image (69, .goto 4, 3) (List.mem_of_getElem? (i := 31) rfl))) (fun _ => rfl) ?_
  exact ZW_wide (k := 34) (n := 2455) (by decide) (by decide) (ZW_rt (s_zret rfl rfl rfl (dk_pX11_image (73, .ireturn, 1) (List.mem_of_getElem? (i := 33) rfl))) (fun _ => rfl))
set_option maxRecDepth 20000 in
theorem pa_imgc {v : Bool} {M M2 : zM} (hg1 : ((true, v) : zg).1 = true) (hk : X_X10_take (true, v) [.ref 206, .ref 6] (imgM (false, v) M) = some (none, M2)) : zMt yX11_image cX11_image 2 (some .boolean) 3 34 2455 [.ref 0, .int 1] (zem (false, v) M) (some (.int 1)) (zem (true, v) M2) := by
  have v0 : AVx (zem (false, v) M) (zVs (false, v)) 206 206 := AV_em
  have v1 := AV_nw v0
  have u1 := img_ct v M
  refine zMt_of (by decide +kernel) rfl (Nat.le_of_ble_eq_true rfl) ?_
  show ZW _ _ _ _ _ _ _ _ _ 0 0 0 [some (.ref 0), some (.int 1)] [] (zem (false, v) M) _ _
  refine ZW_sm (pc' := 1) (ls' := [some (.ref 0), some (.int 1)]) (st' := [.int 1]) (s_iload_n rfl (dk_pX11_image (0, .iload_n 1, 1) (List.mem_of_getElem? (i := 0) rfl))) (fun _ => rfl) ?_
  refine ZW_sm (pc' := 4) (ls' := [some (.ref 0), some (.int 1)]) (st' := []) (s_ifeq (pc := 1) (t := 36) (by decide) (dk_pX11_image (1, .ifCond .eq 35, 3) (List.mem_of_getElem? (i := 1) rfl))) (fun _ => a_ifF rfl) ?_
  refine ZW_sm (pc' := 5) (ls' := [some (.ref 0), some (.int 1)]) (st' := [.ref 0]) (s_aload_n rfl (dk_pX11_image (4, .aload_n 0, 1) (List.mem_of_getElem? (i := 2) rfl))) (fun _ => rfl) ?_
  refine Z_get (em_in (by omega)) (ci := 11) (k := 7) rfl (by decide) (by decide) (Or.inl cf_RX11_326) (dk_pX11_image (5, .getfield 326, 3) (List.mem_of_getElem? (i := 3) rfl)) ?_
  show ZW _ _ _ _ _ _ _ _ _ _ _ 8 _ [.null] _ _ _
  refine ZW_sm (pc' := 11) (ls' := [some (.ref 0), some (.int 1)]) (st' := []) (s_ifnonnull (pc := 8) (t := 22) (by decide) (dk_pX11_image (8, .ifnonnull 14, 3) (List.mem_of_getElem? (i := 4) rfl))) (fun _ => rfl) ?_
  refine ZW_sm (pc' := 12) (ls' := [some (.ref 0), some (.int 1)]) (st' := [.ref 0]) (s_aload_n rfl (dk_pX11_image (11, .aload_n 0, 1) (List.mem_of_getElem? (i := 5) rfl))) (fun _ => rfl) ?_
  refine Z_new (ci := 10) (a := 206) rfl (by decide) (AV_fr v0 (img_fr v) (by omega) (by omega)) (AV_fr v0 (img_fr v) (by omega) (by omega)) (by omega) (AV_cl v0) ⟨by omega, trivial⟩ ⟨by omega, trivial⟩ cc_RX11_16 ci_10 cn_10 ⟨by decide, by decide⟩ (dk_pX11_image (12, .new 16, 3) (List.mem_of_getElem? (i := 6) rfl)) ?_
  refine ZW_sm (pc' := 16) (ls' := [some (.ref 0), some (.int 1)]) (st' := [.ref 206, .ref 206, .ref 0]) (s_dup (dk_pX11_image (15, .dup, 1) (List.mem_of_getElem? (i := 7) rfl))) (fun _ => rfl) ?_
  refine Z_callC (as := []) (b := 206) (st := [.ref 206, .ref 0]) (lo := 207) u1.1 (AV_sub v0 v1 (by omega)) (AV_sub v1 u1.2 (by omega)) (AV_new v1 u1.2) ⟨by omega, by omega, trivial⟩ ⟨by omega, trivial⟩ mi_X10_init (Or.inr cm_RX11_18) rfl ⟨by decide, by decide⟩ rfl ⟨by decide, by decide⟩ (dk_pX11_image (16, .invokespecial 18, 3) (List.mem_of_getElem? (i := 8) rfl)) ?_
  refine Z_ptR (AV_sub v0 u1.2 (by omega) 0 (em_in (by omega))) rfl (by decide) (by decide) rfl (Or.inl rfl) (fun _ => rfl) (fun _ => rfl) cf_RX11_326 (dk_pX11_image (19, .putfield 326, 3) (List.mem_of_getElem? (i := 9) rfl)) ?_
  refine ZW_eqv (imgZ_eqv v M) ?_
  refine ZW_sm (pc' := 23) (ls' := [some (.ref 0), some (.int 1)]) (st' := [.ref 0]) (s_aload_n rfl (dk_pX11_image (22, .aload_n 0, 1) (List.mem_of_getElem? (i := 10) rfl))) (fun _ => rfl) ?_
  refine Z_get (em_in (by omega)) (ci := 11) (k := 7) rfl (by decide) (by decide) (Or.inl cf_RX11_326) (dk_pX11_image (23, .getfield 326, 3) (List.mem_of_getElem? (i := 11) rfl)) ?_
  show ZW _ _ _ _ _ _ _ _ _ _ _ 26 _ [.ref 206] _ _ _
  refine ZW_sm (pc' := 27) (ls' := [some (.ref 0), some (.int 1)]) (st' := [.ref 0, .ref 206]) (s_aload_n rfl (dk_pX11_image (26, .aload_n 0, 1) (List.mem_of_getElem? (i := 12) rfl))) (fun _ => rfl) ?_
  refine Z_get (em_in (by omega)) (ci := 11) (k := 1) rfl (by decide) (by decide) (Or.inl lf_RX11_19) (dk_pX11_image (27, .getfield 19, 3) (List.mem_of_getElem? (i := 13) rfl)) ?_
  show ZW _ _ _ _ _ _ _ _ _ _ _ 30 _ [.ref 6, .ref 206] _ _ _
  refine Z_callV (M := zem (true, v) (imgM (false, v) M)) (as := [.ref 6]) (b := 206) (st := []) (mt_X10_take _ _ _ _ hk) rfl (zVs_mem.2 (Or.inr (Or.inl ⟨hg1, by omega, by omega⟩))) (ci := 10) rfl (by decide) rfl mv_X10_take lc_RX11_329 rfl ⟨by decide, by decide⟩ rfl ⟨by decide, by decide⟩ (dk_pX11_image (30, .invokevirtual 329, 3) (List.mem_of_getElem? (i := 14) rfl)) ?_
  show ZW _ _ _ _ _ _ _ _ _ _ _ 33 [some (.ref 0), some (.int 1)] [] _ _ _
  refine ZW_sm (pc' := 61) (ls' := [some (.ref 0), some (.int 1)]) (st' := []) (s_goto (pc := 33) (t := 61) (by decide) (dk_pX11_image (33, .goto 28, 3) (List.mem_of_getElem? (i := 15) rfl))) (fun _ => rfl) ?_
  refine ZW_sm (pc' := 62) (ls' := [some (.ref 0), some (.int 1)]) (st' := [.ref 0]) (s_aload_n rfl (dk_pX11_image (61, .aload_n 0, 1) (List.mem_of_getElem? (i := 27) rfl))) (fun _ => rfl) ?_
  refine Z_get (em_in (by omega)) (ci := 11) (k := 7) rfl (by decide) (by decide) (Or.inl cf_RX11_326) (dk_pX11_image (62, .getfield 326, 3) (List.mem_of_getElem? (i := 28) rfl)) ?_
  show ZW _ _ _ _ _ _ _ _ _ _ _ 65 _ [.ref 206] _ _ _
  refine ZW_sm (pc' := 68) (ls' := [some (.ref 0), some (.int 1)]) (st' := []) (s_ifnull (pc := 65) (t := 72) (by decide) (dk_pX11_image (65, .ifnull 7, 3) (List.mem_of_getElem? (i := 29) rfl))) (fun _ => rfl) ?_
  refine ZW_sm (pc' := 69) (ls' := [some (.ref 0), some (.int 1)]) (st' := [.int 1]) (s_iconst (v := 1) (by decide) (dk_pX11_image (68, .iconst 1, 1) (List.mem_of_getElem? (i := 30) rfl))) (fun _ => rfl) ?_
  refine ZW_sm (pc' := 73) (ls' := [some (.ref 0), some (.int 1)]) (st' := [.int 1]) (s_goto (pc := 69) (t := 73) (by decide) (dk_pX11_image (69, .goto 4, 3) (List.mem_of_getElem? (i := 31) rfl))) (fun _ => rfl) ?_
  exact ZW_wide (k := 34) (n := 2455) (by decide) (by decide) (ZW_rt (s_zret rfl rfl rfl (dk_pX11_image (73, .ireturn, 1) (List.mem_of_getElem? (i := 33) rfl))) (fun _ => rfl))
