/-! CALLS THAT MAY MAKE THE COUNCIL: paths, printed by mk75.py -/
def dl_pX11_hats : List (Nat × Instr × Nat) := [(0, .aload_n 0, 1), (1, .invokevirtual 270, 3), (4, .aload_n 0, 1), (5, .getfield 19, 3), (8, .getfield 60, 3), (11, .invokevirtual 305, 3), (14, .ireturn, 1)]
set_option maxRecDepth 20000 in
theorem dk_pX11_hats : ∀ q ∈ dl_pX11_hats, decode cX11_hats q.1 = .ok q.2 := by decide +kernel
theorem lc_RX11_270 : zMl RX11 270 yX11_theCouncil := zGt5 53 (by decide +kernel) rfl
theorem mw_X11_theCouncil : zMV yX11_theCouncil cX11_theCouncil 1 (some (.object "SackedGlass$Council")) 0 := ⟨zGt5 55 (by decide +kernel) rfl, zGp2 10 (q := (yX11_theCouncil, 9)) (by decide +kernel), zGt1 1 (by decide +kernel) rfl, zGt5 56 (by decide +kernel) rfl, by decide +kernel, by decide +kernel, by decide +kernel⟩
theorem lc_RX11_305 : zMl RX11 305 yX2_wrongHats := zGt5 151 (by decide +kernel) rfl
set_option maxRecDepth 20000 in
theorem pa_hats {g g' : zg} {M M1 M2 : zM} (hg2 : g'.2 = true) (hC : zMt yX11_theCouncil cX11_theCouncil 1 (some (.object "SackedGlass$Council")) 2 3 7230 [.ref 0] (zem g M) (some (.ref 240)) (zem g' M1)) (hsub : ∀ x ∈ (zem g M).2.2.2, x ∈ (zem g' M1).2.2.2) (hnew : ∀ x ∈ (zem g' M1).2.2.2, x ∉ (zem g M).2.2.2 → 240 ≤ x) {v : Int32} (hk : X_X2_wrongHats g' [.ref 240, .ref 7] M1 = some (some (.int v), M2)) : zMt yX11_hats cX11_hats 1 (some .int) 6 3 7230 [.ref 0] (zem g M) (some (.int v)) (zem g' M2) := by
  refine zMt_of (by decide +kernel) rfl (Nat.le_of_ble_eq_true rfl) ?_
  show ZW _ _ _ _ _ _ _ _ _ 0 0 0 [some (.ref 0)] [] (zem g M) _ _
  refine ZW_sm (pc' := 1) (ls' := [some (.ref 0)]) (st' := [.ref 0]) (s_aload_n rfl (dk_pX11_hats (0, .aload_n 0, 1) (List.mem_of_getElem? (i := 0) rfl))) (fun _ => rfl) ?_
  refine Z_callG (as := []) (b := 0) (st := []) (lo := 240) hC (fun z hz => hz) hsub hnew trivial ⟨by omega, trivial⟩ (em_in (by omega)) (ci := 11) rfl (by decide) rfl mw_X11_theCouncil lc_RX11_270 rfl ⟨by decide, by decide⟩ rfl ⟨by decide, by decide⟩ (dk_pX11_hats (1, .invokevirtual 270, 3) (List.mem_of_getElem? (i := 1) rfl)) ?_
  show ZW _ _ _ _ _ _ _ _ _ _ _ 4 [some (.ref 0)] [.ref 240] _ _ _
  refine ZW_sm (pc' := 5) (ls' := [some (.ref 0)]) (st' := [.ref 0, .ref 240]) (s_aload_n rfl (dk_pX11_hats (4, .aload_n 0, 1) (List.mem_of_getElem? (i := 2) rfl))) (fun _ => rfl) ?_
  refine Z_get (em_in (by omega)) (ci := 11) (k := 1) rfl (by decide) (by decide) (Or.inl lf_RX11_19) (dk_pX11_hats (5, .getfield 19, 3) (List.mem_of_getElem? (i := 3) rfl)) ?_
  show ZW _ _ _ _ _ _ _ _ _ _ _ 8 _ [.ref 6, .ref 240] _ _ _
  refine Z_get (em_in (by omega)) (ci := 10) (k := 0) rfl (by decide) (by decide) (Or.inl lf_RX11_60) (dk_pX11_hats (8, .getfield 60, 3) (List.mem_of_getElem? (i := 4) rfl)) ?_
  show ZW _ _ _ _ _ _ _ _ _ _ _ 11 _ [.ref 7, .ref 240] _ _ _
  refine Z_callV (M := zem g' M1) (as := [.ref 7]) (b := 240) (st := []) (mt_X2_wrongHats _ _ _ _ hk) rfl (zVs_mem.2 (Or.inr (Or.inr ⟨hg2, by omega, by omega⟩))) (ci := 2) rfl (by decide) rfl mv_X2_wrongHats lc_RX11_305 rfl ⟨by decide, by decide⟩ rfl ⟨by decide, by decide⟩ (dk_pX11_hats (11, .invokevirtual 305, 3) (List.mem_of_getElem? (i := 5) rfl)) ?_
  show ZW _ _ _ _ _ _ _ _ _ _ _ 14 [some (.ref 0)] [.int v] _ _ _
  exact ZW_wide (k := 3) (n := 7230) (by decide) (by decide) (ZW_rt (s_iret rfl rfl rfl (dk_pX11_hats (14, .ireturn, 1) (List.mem_of_getElem? (i := 6) rfl))) (fun _ => rfl))
def dl_pX11_wins : List (Nat × Instr × Nat) := [(0, .iload_n 1, 1), (1, .iconst 0, 1), (2, .iconst 1, 1), (3, .invokestatic 70, 3), (6, .ifCond .ne 5, 3), (9, .iconst (-1), 1), (10, .ireturn, 1), (11, .aload_n 0, 1), (12, .invokevirtual 270, 3), (15, .aload_n 0, 1), (16, .getfield 19, 3), (19, .getfield 60, 3), (22, .invokevirtual 285, 3), (25, .istore_n 2, 1), (26, .iload_n 2, 1), (27, .iconst (-1), 1), (28, .if_icmp .eq 8, 3), (31, .iload_n 1, 1), (32, .iconst 1, 1), (33, .if_icmp .ne 7, 3), (36, .iload_n 2, 1), (37, .goto 7, 3), (40, .iload_n 2, 1), (41, .invokestatic 280, 3), (44, .ireturn, 1)]
set_option maxRecDepth 20000 in
theorem dk_pX11_wins : ∀ q ∈ dl_pX11_wins, decode cX11_wins q.1 = .ok q.2 := by decide +kernel
set_option maxRecDepth 20000 in
theorem pa_wins1 {g : zg} {M : zM} {a : Int32} (hw : X_X11_within g [.int a, .int 0, .int 1] M = some (some (.int 0), M)) : zMt yX11_wins cX11_wins 3 (some .int) 7 3 7230 [.ref 0, .int a] (zem g M) (some (.int (-1))) (zem g M) := by
  refine zMt_of (by decide +kernel) rfl (Nat.le_of_ble_eq_true rfl) ?_
  show ZW _ _ _ _ _ _ _ _ _ 0 0 0 [some (.ref 0), some (.int a), none] [] (zem g M) _ _
  refine ZW_sm (pc' := 1) (ls' := [some (.ref 0), some (.int a), none]) (st' := [.int a]) (s_iload_n rfl (dk_pX11_wins (0, .iload_n 1, 1) (List.mem_of_getElem? (i := 0) rfl))) (fun _ => rfl) ?_
  refine ZW_sm (pc' := 2) (ls' := [some (.ref 0), some (.int a), none]) (st' := [.int 0, .int a]) (s_iconst (v := 0) (by decide) (dk_pX11_wins (1, .iconst 0, 1) (List.mem_of_getElem? (i := 1) rfl))) (fun _ => rfl) ?_
  refine ZW_sm (pc' := 3) (ls' := [some (.ref 0), some (.int a), none]) (st' := [.int 1, .int 0, .int a]) (s_iconst (v := 1) (by decide) (dk_pX11_wins (2, .iconst 1, 1) (List.mem_of_getElem? (i := 2) rfl))) (fun _ => rfl) ?_
  refine Z_callS (M := zem g M) (as := [.int a, .int 0, .int 1]) (st := []) (mt_X11_within _ _ _ _ hw) rfl mv_X11_within lm_RX11_70 rfl ⟨by decide, by decide⟩ rfl ⟨by decide, by decide⟩ (dk_pX11_wins (3, .invokestatic 70, 3) (List.mem_of_getElem? (i := 3) rfl)) ?_
  show ZW _ _ _ _ _ _ _ _ _ _ _ 6 [some (.ref 0), some (.int a), none] [.int 0] _ _ _
  refine ZW_sm (pc' := 9) (ls' := [some (.ref 0), some (.int a), none]) (st' := []) (s_ifne (pc := 6) (t := 11) (by decide) (dk_pX11_wins (6, .ifCond .ne 5, 3) (List.mem_of_getElem? (i := 4) rfl))) (fun _ => a_ifT rfl) ?_
  refine ZW_sm (pc' := 10) (ls' := [some (.ref 0), some (.int a), none]) (st' := [.int (-1)]) (s_iconst (v := (-1)) (by decide) (dk_pX11_wins (9, .iconst (-1), 1) (List.mem_of_getElem? (i := 5) rfl))) (fun _ => rfl) ?_
  exact ZW_wide (k := 3) (n := 7230) (by decide) (by decide) (ZW_rt (s_iret rfl rfl rfl (dk_pX11_wins (10, .ireturn, 1) (List.mem_of_getElem? (i := 6) rfl))) (fun _ => rfl))
theorem lc_RX11_285 : zMl RX11 285 yX2_winners := zGt5 84 (by decide +kernel) rfl
set_option maxRecDepth 20000 in
theorem pa_wins2 {g g' : zg} {M M1 M2 : zM} (hg2 : g'.2 = true) (hC : zMt yX11_theCouncil cX11_theCouncil 1 (some (.object "SackedGlass$Council")) 2 3 7230 [.ref 0] (zem g M) (some (.ref 240)) (zem g' M1)) (hsub : ∀ x ∈ (zem g M).2.2.2, x ∈ (zem g' M1).2.2.2) (hnew : ∀ x ∈ (zem g' M1).2.2.2, x ∉ (zem g M).2.2.2 → 240 ≤ x) {a v : Int32} (hw : X_X11_within g [.int a, .int 0, .int 1] M = some (some (.int 1), M)) (hk : X_X2_winners g' [.ref 240, .ref 7] M1 = some (some (.int v), M2)) (hv : cEq v (-1) = true) : zMt yX11_wins cX11_wins 3 (some .int) 7 3 7230 [.ref 0, .int a] (zem g M) (some (.int v)) (zem g' M2) := by
  refine zMt_of (by decide +kernel) rfl (Nat.le_of_ble_eq_true rfl) ?_
  show ZW _ _ _ _ _ _ _ _ _ 0 0 0 [some (.ref 0), some (.int a), none] [] (zem g M) _ _
  refine ZW_sm (pc' := 1) (ls' := [some (.ref 0), some (.int a), none]) (st' := [.int a]) (s_iload_n rfl (dk_pX11_wins (0, .iload_n 1, 1) (List.mem_of_getElem? (i := 0) rfl))) (fun _ => rfl) ?_
  refine ZW_sm (pc' := 2) (ls' := [some (.ref 0), some (.int a), none]) (st' := [.int 0, .int a]) (s_iconst (v := 0) (by decide) (dk_pX11_wins (1, .iconst 0, 1) (List.mem_of_getElem? (i := 1) rfl))) (fun _ => rfl) ?_
  refine ZW_sm (pc' := 3) (ls' := [some (.ref 0), some (.int a), none]) (st' := [.int 1, .int 0, .int a]) (s_iconst (v := 1) (by decide) (dk_pX11_wins (2, .iconst 1, 1) (List.mem_of_getElem? (i := 2) rfl))) (fun _ => rfl) ?_
  refine Z_callS (M := zem g M) (as := [.int a, .int 0, .int 1]) (st := []) (mt_X11_within _ _ _ _ hw) rfl mv_X11_within lm_RX11_70 rfl ⟨by decide, by decide⟩ rfl ⟨by decide, by decide⟩ (dk_pX11_wins (3, .invokestatic 70, 3) (List.mem_of_getElem? (i := 3) rfl)) ?_
  show ZW _ _ _ _ _ _ _ _ _ _ _ 6 [some (.ref 0), some (.int a), none] [.int 1] _ _ _
  refine ZW_sm (pc' := 11) (ls' := [some (.ref 0), some (.int a), none]) (st' := []) (s_ifne (pc := 6) (t := 11) (by decide) (dk_pX11_wins (6, .ifCond .ne 5, 3) (List.mem_of_getElem? (i := 4) rfl))) (fun _ => a_ifF rfl) ?_
  refine ZW_sm (pc' := 12) (ls' := [some (.ref 0), some (.int a), none]) (st' := [.ref 0]) (s_aload_n rfl (dk_pX11_wins (11, .aload_n 0, 1) (List.mem_of_getElem? (i := 7) rfl))) (fun _ => rfl) ?_
  refine Z_callG (as := []) (b := 0) (st := []) (lo := 240) hC (fun z hz => hz) hsub hnew trivial ⟨by omega, trivial⟩ (em_in (by omega)) (ci := 11) rfl (by decide) rfl mw_X11_theCouncil lc_RX11_270 rfl ⟨by decide, by decide⟩ rfl ⟨by decide, by decide⟩ (dk_pX11_wins (12, .invokevirtual 270, 3) (List.mem_of_getElem? (i := 8) rfl)) ?_
  show ZW _ _ _ _ _ _ _ _ _ _ _ 15 [some (.ref 0), some (.int a), none] [.ref 240] _ _ _
  refine ZW_sm (pc' := 16) (ls' := [some (.ref 0), some (.int a), none]) (st' := [.ref 0, .ref 240]) (s_aload_n rfl (dk_pX11_wins (15, .aload_n 0, 1) (List.mem_of_getElem? (i := 9) rfl))) (fun _ => rfl) ?_
  refine Z_get (em_in (by omega)) (ci := 11) (k := 1) rfl (by decide) (by decide) (Or.inl lf_RX11_19) (dk_pX11_wins (16, .getfield 19, 3) (List.mem_of_getElem? (i := 10) rfl)) ?_
  show ZW _ _ _ _ _ _ _ _ _ _ _ 19 _ [.ref 6, .ref 240] _ _ _
  refine Z_get (em_in (by omega)) (ci := 10) (k := 0) rfl (by decide) (by decide) (Or.inl lf_RX11_60) (dk_pX11_wins (19, .getfield 60, 3) (List.mem_of_getElem? (i := 11) rfl)) ?_
  show ZW _ _ _ _ _ _ _ _ _ _ _ 22 _ [.ref 7, .ref 240] _ _ _
  refine Z_callV (M := zem g' M1) (as := [.ref 7]) (b := 240) (st := []) (mt_X2_winners _ _ _ _ hk) rfl (zVs_mem.2 (Or.inr (Or.inr ⟨hg2, by omega, by omega⟩))) (ci := 2) rfl (by decide) rfl mv_X2_winners lc_RX11_285 rfl ⟨by decide, by decide⟩ rfl ⟨by decide, by decide⟩ (dk_pX11_wins (22, .invokevirtual 285, 3) (List.mem_of_getElem? (i := 12) rfl)) ?_
  show ZW _ _ _ _ _ _ _ _ _ _ _ 25 [some (.ref 0), some (.int a), none] [.int v] _ _ _
  refine ZW_sm (pc' := 26) (ls' := [some (.ref 0), some (.int a), some (.int v)]) (st' := []) (s_istore_n rfl (by decide) (dk_pX11_wins (25, .istore_n 2, 1) (List.mem_of_getElem? (i := 13) rfl))) (fun _ => rfl) ?_
  refine ZW_sm (pc' := 27) (ls' := [some (.ref 0), some (.int a), some (.int v)]) (st' := [.int v]) (s_iload_n rfl (dk_pX11_wins (26, .iload_n 2, 1) (List.mem_of_getElem? (i := 14) rfl))) (fun _ => rfl) ?_
  refine ZW_sm (pc' := 28) (ls' := [some (.ref 0), some (.int a), some (.int v)]) (st' := [.int (-1), .int v]) (s_iconst (v := (-1)) (by decide) (dk_pX11_wins (27, .iconst (-1), 1) (List.mem_of_getElem? (i := 15) rfl))) (fun _ => rfl) ?_
  refine ZW_sm (pc' := 36) (ls' := [some (.ref 0), some (.int a), some (.int v)]) (st' := []) (s_cmeq (pc := 28) (t := 36) (by decide) (dk_pX11_wins (28, .if_icmp .eq 8, 3) (List.mem_of_getElem? (i := 16) rfl))) (fun _ => a_cmT hv) ?_
  refine ZW_sm (pc' := 37) (ls' := [some (.ref 0), some (.int a), some (.int v)]) (st' := [.int v]) (s_iload_n rfl (dk_pX11_wins (36, .iload_n 2, 1) (List.mem_of_getElem? (i := 20) rfl))) (fun _ => rfl) ?_
  refine ZW_sm (pc' := 44) (ls' := [some (.ref 0), some (.int a), some (.int v)]) (st' := [.int v]) (s_goto (pc := 37) (t := 44) (by decide) (dk_pX11_wins (37, .goto 7, 3) (List.mem_of_getElem? (i := 21) rfl))) (fun _ => rfl) ?_
  exact ZW_wide (k := 3) (n := 7230) (by decide) (by decide) (ZW_rt (s_iret rfl rfl rfl (dk_pX11_wins (44, .ireturn, 1) (List.mem_of_getElem? (i := 24) rfl))) (fun _ => rfl))
set_option maxRecDepth 20000 in
theorem pa_wins3 {g g' : zg} {M M1 M2 : zM} (hg2 : g'.2 = true) (hC : zMt yX11_theCouncil cX11_theCouncil 1 (some (.object "SackedGlass$Council")) 2 3 7230 [.ref 0] (zem g M) (some (.ref 240)) (zem g' M1)) (hsub : ∀ x ∈ (zem g M).2.2.2, x ∈ (zem g' M1).2.2.2) (hnew : ∀ x ∈ (zem g' M1).2.2.2, x ∉ (zem g M).2.2.2 → 240 ≤ x) {a v : Int32} (hw : X_X11_within g [.int a, .int 0, .int 1] M = some (some (.int 1), M)) (hk : X_X2_winners g' [.ref 240, .ref 7] M1 = some (some (.int v), M2)) (hv : cEq v (-1) = false) (ha : cEq a 1 = true) : zMt yX11_wins cX11_wins 3 (some .int) 7 3 7230 [.ref 0, .int a] (zem g M) (some (.int v)) (zem g' M2) := by
  refine zMt_of (by decide +kernel) rfl (Nat.le_of_ble_eq_true rfl) ?_
  show ZW _ _ _ _ _ _ _ _ _ 0 0 0 [some (.ref 0), some (.int a), none] [] (zem g M) _ _
  refine ZW_sm (pc' := 1) (ls' := [some (.ref 0), some (.int a), none]) (st' := [.int a]) (s_iload_n rfl (dk_pX11_wins (0, .iload_n 1, 1) (List.mem_of_getElem? (i := 0) rfl))) (fun _ => rfl) ?_
  refine ZW_sm (pc' := 2) (ls' := [some (.ref 0), some (.int a), none]) (st' := [.int 0, .int a]) (s_iconst (v := 0) (by decide) (dk_pX11_wins (1, .iconst 0, 1) (List.mem_of_getElem? (i := 1) rfl))) (fun _ => rfl) ?_
  refine ZW_sm (pc' := 3) (ls' := [some (.ref 0), some (.int a), none]) (st' := [.int 1, .int 0, .int a]) (s_iconst (v := 1) (by decide) (dk_pX11_wins (2, .iconst 1, 1) (List.mem_of_getElem? (i := 2) rfl))) (fun _ => rfl) ?_
  refine Z_callS (M := zem g M) (as := [.int a, .int 0, .int 1]) (st := []) (mt_X11_within _ _ _ _ hw) rfl mv_X11_within lm_RX11_70 rfl ⟨by decide, by decide⟩ rfl ⟨by decide, by decide⟩ (dk_pX11_wins (3, .invokestatic 70, 3) (List.mem_of_getElem? (i := 3) rfl)) ?_
  show ZW _ _ _ _ _ _ _ _ _ _ _ 6 [some (.ref 0), some (.int a), none] [.int 1] _ _ _
  refine ZW_sm (pc' := 11) (ls' := [some (.ref 0), some (.int a), none]) (st' := []) (s_ifne (pc := 6) (t := 11) (by decide) (dk_pX11_wins (6, .ifCond .ne 5, 3) (List.mem_of_getElem? (i := 4) rfl))) (fun _ => a_ifF rfl) ?_
  refine ZW_sm (pc' := 12) (ls' := [some (.ref 0), some (.int a), none]) (st' := [.ref 0]) (s_aload_n rfl (dk_pX11_wins (11, .aload_n 0, 1) (List.mem_of_getElem? (i := 7) rfl))) (fun _ => rfl) ?_
  refine Z_callG (as := []) (b := 0) (st := []) (lo := 240) hC (fun z hz => hz) hsub hnew trivial ⟨by omega, trivial⟩ (em_in (by omega)) (ci := 11) rfl (by decide) rfl mw_X11_theCouncil lc_RX11_270 rfl ⟨by decide, by decide⟩ rfl ⟨by decide, by decide⟩ (dk_pX11_wins (12, .invokevirtual 270, 3) (List.mem_of_getElem? (i := 8) rfl)) ?_
  show ZW _ _ _ _ _ _ _ _ _ _ _ 15 [some (.ref 0), some (.int a), none] [.ref 240] _ _ _
  refine ZW_sm (pc' := 16) (ls' := [some (.ref 0), some (.int a), none]) (st' := [.ref 0, .ref 240]) (s_aload_n rfl (dk_pX11_wins (15, .aload_n 0, 1) (List.mem_of_getElem? (i := 9) rfl))) (fun _ => rfl) ?_
  refine Z_get (em_in (by omega)) (ci := 11) (k := 1) rfl (by decide) (by decide) (Or.inl lf_RX11_19) (dk_pX11_wins (16, .getfield 19, 3) (List.mem_of_getElem? (i := 10) rfl)) ?_
  show ZW _ _ _ _ _ _ _ _ _ _ _ 19 _ [.ref 6, .ref 240] _ _ _
  refine Z_get (em_in (by omega)) (ci := 10) (k := 0) rfl (by decide) (by decide) (Or.inl lf_RX11_60) (dk_pX11_wins (19, .getfield 60, 3) (List.mem_of_getElem? (i := 11) rfl)) ?_
  show ZW _ _ _ _ _ _ _ _ _ _ _ 22 _ [.ref 7, .ref 240] _ _ _
  refine Z_callV (M := zem g' M1) (as := [.ref 7]) (b := 240) (st := []) (mt_X2_winners _ _ _ _ hk) rfl (zVs_mem.2 (Or.inr (Or.inr ⟨hg2, by omega, by omega⟩))) (ci := 2) rfl (by decide) rfl mv_X2_winners lc_RX11_285 rfl ⟨by decide, by decide⟩ rfl ⟨by decide, by decide⟩ (dk_pX11_wins (22, .invokevirtual 285, 3) (List.mem_of_getElem? (i := 12) rfl)) ?_
  show ZW _ _ _ _ _ _ _ _ _ _ _ 25 [some (.ref 0), some (.int a), none] [.int v] _ _ _
  refine ZW_sm (pc' := 26) (ls' := [some (.ref 0), some (.int a), some (.int v)]) (st' := []) (s_istore_n rfl (by decide) (dk_pX11_wins (25, .istore_n 2, 1) (List.mem_of_getElem? (i := 13) rfl))) (fun _ => rfl) ?_
  refine ZW_sm (pc' := 27) (ls' := [some (.ref 0), some (.int a), some (.int v)]) (st' := [.int v]) (s_iload_n rfl (dk_pX11_wins (26, .iload_n 2, 1) (List.mem_of_getElem? (i := 14) rfl))) (fun _ => rfl) ?_
  refine ZW_sm (pc' := 28) (ls' := [some (.ref 0), some (.int a), some (.int v)]) (st' := [.int (-1), .int v]) (s_iconst (v := (-1)) (by decide) (dk_pX11_wins (27, .iconst (-1), 1) (List.mem_of_getElem? (i := 15) rfl))) (fun _ => rfl) ?_
  refine ZW_sm (pc' := 31) (ls' := [some (.ref 0), some (.int a), some (.int v)]) (st' := []) (s_cmeq (pc := 28) (t := 36) (by decide) (dk_pX11_wins (28, .if_icmp .eq 8, 3) (List.mem_of_getElem? (i := 16) rfl))) (fun _ => a_cmF hv) ?_
  refine ZW_sm (pc' := 32) (ls' := [some (.ref 0), some (.int a), some (.int v)]) (st' := [.int a]) (s_iload_n rfl (dk_pX11_wins (31, .iload_n 1, 1) (List.mem_of_getElem? (i := 17) rfl))) (fun _ => rfl) ?_
  refine ZW_sm (pc' := 33) (ls' := [some (.ref 0), some (.int a), some (.int v)]) (st' := [.int 1, .int a]) (s_iconst (v := 1) (by decide) (dk_pX11_wins (32, .iconst 1, 1) (List.mem_of_getElem? (i := 18) rfl))) (fun _ => rfl) ?_
  refine ZW_sm (pc' := 36) (ls' := [some (.ref 0), some (.int a), some (.int v)]) (st' := []) (s_cmne (pc := 33) (t := 40) (by decide) (dk_pX11_wins (33, .if_icmp .ne 7, 3) (List.mem_of_getElem? (i := 19) rfl))) (fun _ => a_cmT ha) ?_
  refine ZW_sm (pc' := 37) (ls' := [some (.ref 0), some (.int a), some (.int v)]) (st' := [.int v]) (s_iload_n rfl (dk_pX11_wins (36, .iload_n 2, 1) (List.mem_of_getElem? (i := 20) rfl))) (fun _ => rfl) ?_
  refine ZW_sm (pc' := 44) (ls' := [some (.ref 0), some (.int a), some (.int v)]) (st' := [.int v]) (s_goto (pc := 37) (t := 44) (by decide) (dk_pX11_wins (37, .goto 7, 3) (List.mem_of_getElem? (i := 21) rfl))) (fun _ => rfl) ?_
  exact ZW_wide (k := 3) (n := 7230) (by decide) (by decide) (ZW_rt (s_iret rfl rfl rfl (dk_pX11_wins (44, .ireturn, 1) (List.mem_of_getElem? (i := 24) rfl))) (fun _ => rfl))
theorem lc_RX11_280 : zMl RX11 280 yJ6_bitCount_0f7a4 := zGt5 79 (by decide +kernel) rfl
set_option maxRecDepth 20000 in
theorem pa_wins4 {g g' : zg} {M M1 M2 : zM} (hg2 : g'.2 = true) (hC : zMt yX11_theCouncil cX11_theCouncil 1 (some (.object "SackedGlass$Council")) 2 3 7230 [.ref 0] (zem g M) (some (.ref 240)) (zem g' M1)) (hsub : ∀ x ∈ (zem g M).2.2.2, x ∈ (zem g' M1).2.2.2) (hnew : ∀ x ∈ (zem g' M1).2.2.2, x ∉ (zem g M).2.2.2 → 240 ≤ x) {a v : Int32} (hw : X_X11_within g [.int a, .int 0, .int 1] M = some (some (.int 1), M)) (hk : X_X2_winners g' [.ref 240, .ref 7] M1 = some (some (.int v), M2)) (hv : cEq v (-1) = false) (ha : cEq a 1 = false) {w : Int32} (hb : X_J6_bitCount_0f7a4 g' [.int v] M2 = some (some (.int w), M2)) : zMt yX11_wins cX11_wins 3 (some .int) 7 3 7230 [.ref 0, .int a] (zem g M) (some (.int w)) (zem g' M2) := by
  refine zMt_of (by decide +kernel) rfl (Nat.le_of_ble_eq_true rfl) ?_
  show ZW _ _ _ _ _ _ _ _ _ 0 0 0 [some (.ref 0), some (.int a), none] [] (zem g M) _ _
  refine ZW_sm (pc' := 1) (ls' := [some (.ref 0), some (.int a), none]) (st' := [.int a]) (s_iload_n rfl (dk_pX11_wins (0, .iload_n 1, 1) (List.mem_of_getElem? (i := 0) rfl))) (fun _ => rfl) ?_
  refine ZW_sm (pc' := 2) (ls' := [some (.ref 0), some (.int a), none]) (st' := [.int 0, .int a]) (s_iconst (v := 0) (by decide) (dk_pX11_wins (1, .iconst 0, 1) (List.mem_of_getElem? (i := 1) rfl))) (fun _ => rfl) ?_
  refine ZW_sm (pc' := 3) (ls' := [some (.ref 0), some (.int a), none]) (st' := [.int 1, .int 0, .int a]) (s_iconst (v := 1) (by decide) (dk_pX11_wins (2, .iconst 1, 1) (List.mem_of_getElem? (i := 2) rfl))) (fun _ => rfl) ?_
  refine Z_callS (M := zem g M) (as := [.int a, .int 0, .int 1]) (st := []) (mt_X11_within _ _ _ _ hw) rfl mv_X11_within lm_RX11_70 rfl ⟨by decide, by decide⟩ rfl ⟨by decide, by decide⟩ (dk_pX11_wins (3, .invokestatic 70, 3) (List.mem_of_getElem? (i := 3) rfl)) ?_
  show ZW _ _ _ _ _ _ _ _ _ _ _ 6 [some (.ref 0), some (.int a), none] [.int 1] _ _ _
  refine ZW_sm (pc' := 11) (ls' := [some (.ref 0), some (.int a), none]) (st' := []) (s_ifne (pc := 6) (t := 11) (by decide) (dk_pX11_wins (6, .ifCond .ne 5, 3) (List.mem_of_getElem? (i := 4) rfl))) (fun _ => a_ifF rfl) ?_
  refine ZW_sm (pc' := 12) (ls' := [some (.ref 0), some (.int a), none]) (st' := [.ref 0]) (s_aload_n rfl (dk_pX11_wins (11, .aload_n 0, 1) (List.mem_of_getElem? (i := 7) rfl))) (fun _ => rfl) ?_
  refine Z_callG (as := []) (b := 0) (st := []) (lo := 240) hC (fun z hz => hz) hsub hnew trivial ⟨by omega, trivial⟩ (em_in (by omega)) (ci := 11) rfl (by decide) rfl mw_X11_theCouncil lc_RX11_270 rfl ⟨by decide, by decide⟩ rfl ⟨by decide, by decide⟩ (dk_pX11_wins (12, .invokevirtual 270, 3) (List.mem_of_getElem? (i := 8) rfl)) ?_
  show ZW _ _ _ _ _ _ _ _ _ _ _ 15 [some (.ref 0), some (.int a), none] [.ref 240] _ _ _
  refine ZW_sm (pc' := 16) (ls' := [some (.ref 0), some (.int a), none]) (st' := [.ref 0, .ref 240]) (s_aload_n rfl (dk_pX11_wins (15, .aload_n 0, 1) (List.mem_of_getElem? (i := 9) rfl))) (fun _ => rfl) ?_
  refine Z_get (em_in (by omega)) (ci := 11) (k := 1) rfl (by decide) (by decide) (Or.inl lf_RX11_19) (dk_pX11_wins (16, .getfield 19, 3) (List.mem_of_getElem? (i := 10) rfl)) ?_
  show ZW _ _ _ _ _ _ _ _ _ _ _ 19 _ [.ref 6, .ref 240] _ _ _
  refine Z_get (em_in (by omega)) (ci := 10) (k := 0) rfl (by decide) (by decide) (Or.inl lf_RX11_60) (dk_pX11_wins (19, .getfield 60, 3) (List.mem_of_getElem? (i := 11) rfl)) ?_
  show ZW _ _ _ _ _ _ _ _ _ _ _ 22 _ [.ref 7, .ref 240] _ _ _
  refine Z_callV (M := zem g' M1) (as := [.ref 7]) (b := 240) (st := []) (mt_X2_winners _ _ _ _ hk) rfl (zVs_mem.2 (Or.inr (Or.inr ⟨hg2, by omega, by omega⟩))) (ci := 2) rfl (by decide) rfl mv_X2_winners lc_RX11_285 rfl ⟨by decide, by decide⟩ rfl ⟨by decide, by decide⟩ (dk_pX11_wins (22, .invokevirtual 285, 3) (List.mem_of_getElem? (i := 12) rfl)) ?_
  show ZW _ _ _ _ _ _ _ _ _ _ _ 25 [some (.ref 0), some (.int a), none] [.int v] _ _ _
  refine ZW_sm (pc' := 26) (ls' := [some (.ref 0), some (.int a), some (.int v)]) (st' := []) (s_istore_n rfl (by decide) (dk_pX11_wins (25, .istore_n 2, 1) (List.mem_of_getElem? (i := 13) rfl))) (fun _ => rfl) ?_
  refine ZW_sm (pc' := 27) (ls' := [some (.ref 0), some (.int a), some (.int v)]) (st' := [.int v]) (s_iload_n rfl (dk_pX11_wins (26, .iload_n 2, 1) (List.mem_of_getElem? (i := 14) rfl))) (fun _ => rfl) ?_
  refine ZW_sm (pc' := 28) (ls' := [some (.ref 0), some (.int a), some (.int v)]) (st' := [.int (-1), .int v]) (s_iconst (v := (-1)) (by decide) (dk_pX11_wins (27, .iconst (-1), 1) (List.mem_of_getElem? (i := 15) rfl))) (fun _ => rfl) ?_
  refine ZW_sm (pc' := 31) (ls' := [some (.ref 0), some (.int a), some (.int v)]) (st' := []) (s_cmeq (pc := 28) (t := 36) (by decide) (dk_pX11_wins (28, .if_icmp .eq 8, 3) (List.mem_of_getElem? (i := 16) rfl))) (fun _ => a_cmF hv) ?_
  refine ZW_sm (pc' := 32) (ls' := [some (.ref 0), some (.int a), some (.int v)]) (st' := [.int a]) (s_iload_n rfl (dk_pX11_wins (31, .iload_n 1, 1) (List.mem_of_getElem? (i := 17) rfl))) (fun _ => rfl) ?_
  refine ZW_sm (pc' := 33) (ls' := [some (.ref 0), some (.int a), some (.int v)]) (st' := [.int 1, .int a]) (s_iconst (v := 1) (by decide) (dk_pX11_wins (32, .iconst 1, 1) (List.mem_of_getElem? (i := 18) rfl))) (fun _ => rfl) ?_
  refine ZW_sm (pc' := 40) (ls' := [some (.ref 0), some (.int a), some (.int v)]) (st' := []) (s_cmne (pc := 33) (t := 40) (by decide) (dk_pX11_wins (33, .if_icmp .ne 7, 3) (List.mem_of_getElem? (i := 19) rfl))) (fun _ => a_cmF ha) ?_
  refine ZW_sm (pc' := 41) (ls' := [some (.ref 0), some (.int a), some (.int v)]) (st' := [.int v]) (s_iload_n rfl (dk_pX11_wins (40, .iload_n 2, 1) (List.mem_of_getElem? (i := 22) rfl))) (fun _ => rfl) ?_
  refine Z_callS (M := zem g' M2) (as := [.int v]) (st := []) (mt_J6_bitCount_0f7a4 _ _ _ _ hb) rfl mv_J6_bitCount_0f7a4 lc_RX11_280 rfl ⟨by decide, by decide⟩ rfl ⟨by decide, by decide⟩ (dk_pX11_wins (41, .invokestatic 280, 3) (List.mem_of_getElem? (i := 23) rfl)) ?_
  show ZW _ _ _ _ _ _ _ _ _ _ _ 44 [some (.ref 0), some (.int a), some (.int v)] [.int w] _ _ _
  exact ZW_wide (k := 3) (n := 7230) (by decide) (by decide) (ZW_rt (s_iret rfl rfl rfl (dk_pX11_wins (44, .ireturn, 1) (List.mem_of_getElem? (i := 24) rfl))) (fun _ => rfl))
def dl_pX11_weighs : List (Nat × Instr × Nat) := [(0, .aload_n 0, 1), (1, .getfield 19, 3), (4, .getfield 60, 3), (7, .iload_n 1, 1), (8, .invokevirtual 87, 3), (11, .ifCond .eq 21, 3), (14, .aload_n 0, 1), (15, .invokevirtual 270, 3), (18, .aload_n 0, 1), (19, .getfield 19, 3), (22, .getfield 60, 3), (25, .iload_n 1, 1), (26, .invokevirtual 288, 3), (29, .goto 4, 3), (32, .iconst (-1), 1), (33, .ireturn, 1)]
set_option maxRecDepth 20000 in
theorem dk_pX11_weighs : ∀ q ∈ dl_pX11_weighs, decode cX11_weighs q.1 = .ok q.2 := by decide +kernel
set_option maxRecDepth 20000 in
theorem pa_weighs1 {g : zg} {M : zM} {a : Int32} (hw : X_X3_has g [.ref 7, .int a] M = some (some (.int 0), M)) : zMt yX11_weighs cX11_weighs 2 (some .int) 7 3 7230 [.ref 0, .int a] (zem g M) (some (.int (-1))) (zem g M) := by
  refine zMt_of (by decide +kernel) rfl (Nat.le_of_ble_eq_true rfl) ?_
  show ZW _ _ _ _ _ _ _ _ _ 0 0 0 [some (.ref 0), some (.int a)] [] (zem g M) _ _
  refine ZW_sm (pc' := 1) (ls' := [some (.ref 0), some (.int a)]) (st' := [.ref 0]) (s_aload_n rfl (dk_pX11_weighs (0, .aload_n 0, 1) (List.mem_of_getElem? (i := 0) rfl))) (fun _ => rfl) ?_
  refine Z_get (em_in (by omega)) (ci := 11) (k := 1) rfl (by decide) (by decide) (Or.inl lf_RX11_19) (dk_pX11_weighs (1, .getfield 19, 3) (List.mem_of_getElem? (i := 1) rfl)) ?_
  show ZW _ _ _ _ _ _ _ _ _ _ _ 4 _ [.ref 6] _ _ _
  refine Z_get (em_in (by omega)) (ci := 10) (k := 0) rfl (by decide) (by decide) (Or.inl lf_RX11_60) (dk_pX11_weighs (4, .getfield 60, 3) (List.mem_of_getElem? (i := 2) rfl)) ?_
  show ZW _ _ _ _ _ _ _ _ _ _ _ 7 _ [.ref 7] _ _ _
  refine ZW_sm (pc' := 8) (ls' := [some (.ref 0), some (.int a)]) (st' := [.int a, .ref 7]) (s_iload_n rfl (dk_pX11_weighs (7, .iload_n 1, 1) (List.mem_of_getElem? (i := 3) rfl))) (fun _ => rfl) ?_
  refine Z_callV (M := zem g M) (as := [.int a]) (b := 7) (st := []) (mt_X3_has _ _ _ _ hw) rfl (em_in (by omega)) (ci := 3) rfl (by decide) rfl mv_X3_has lm_RX11_87 rfl ⟨by decide, by decide⟩ rfl ⟨by decide, by decide⟩ (dk_pX11_weighs (8, .invokevirtual 87, 3) (List.mem_of_getElem? (i := 4) rfl)) ?_
  show ZW _ _ _ _ _ _ _ _ _ _ _ 11 [some (.ref 0), some (.int a)] [.int 0] _ _ _
  refine ZW_sm (pc' := 32) (ls' := [some (.ref 0), some (.int a)]) (st' := []) (s_ifeq (pc := 11) (t := 32) (by decide) (dk_pX11_weighs (11, .ifCond .eq 21, 3) (List.mem_of_getElem? (i := 5) rfl))) (fun _ => a_ifT rfl) ?_
  refine ZW_sm (pc' := 33) (ls' := [some (.ref 0), some (.int a)]) (st' := [.int (-1)]) (s_iconst (v := (-1)) (by decide) (dk_pX11_weighs (32, .iconst (-1), 1) (List.mem_of_getElem? (i := 14) rfl))) (fun _ => rfl) ?_
  exact ZW_wide (k := 3) (n := 7230) (by decide) (by decide) (ZW_rt (s_iret rfl rfl rfl (dk_pX11_weighs (33, .ireturn, 1) (List.mem_of_getElem? (i := 15) rfl))) (fun _ => rfl))
theorem lc_RX11_288 : zMl RX11 288 yX2_weightOf := zGt5 101 (by decide +kernel) rfl
set_option maxRecDepth 20000 in
theorem pa_weighs2 {g g' : zg} {M M1 M2 : zM} (hg2 : g'.2 = true) (hC : zMt yX11_theCouncil cX11_theCouncil 1 (some (.object "SackedGlass$Council")) 2 3 7230 [.ref 0] (zem g M) (some (.ref 240)) (zem g' M1)) (hsub : ∀ x ∈ (zem g M).2.2.2, x ∈ (zem g' M1).2.2.2) (hnew : ∀ x ∈ (zem g' M1).2.2.2, x ∉ (zem g M).2.2.2 → 240 ≤ x) {a v : Int32} (hw : X_X3_has g [.ref 7, .int a] M = some (some (.int 1), M)) (hk : X_X2_weightOf g' [.ref 240, .ref 7, .int a] M1 = some (some (.int v), M2)) : zMt yX11_weighs cX11_weighs 2 (some .int) 7 3 7230 [.ref 0, .int a] (zem g M) (some (.int v)) (zem g' M2) := by
  refine zMt_of (by decide +kernel) rfl (Nat.le_of_ble_eq_true rfl) ?_
  show ZW _ _ _ _ _ _ _ _ _ 0 0 0 [some (.ref 0), some (.int a)] [] (zem g M) _ _
  refine ZW_sm (pc' := 1) (ls' := [some (.ref 0), some (.int a)]) (st' := [.ref 0]) (s_aload_n rfl (dk_pX11_weighs (0, .aload_n 0, 1) (List.mem_of_getElem? (i := 0) rfl))) (fun _ => rfl) ?_
  refine Z_get (em_in (by omega)) (ci := 11) (k := 1) rfl (by decide) (by decide) (Or.inl lf_RX11_19) (dk_pX11_weighs (1, .getfield 19, 3) (List.mem_of_getElem? (i := 1) rfl)) ?_
  show ZW _ _ _ _ _ _ _ _ _ _ _ 4 _ [.ref 6] _ _ _
  refine Z_get (em_in (by omega)) (ci := 10) (k := 0) rfl (by decide) (by decide) (Or.inl lf_RX11_60) (dk_pX11_weighs (4, .getfield 60, 3) (List.mem_of_getElem? (i := 2) rfl)) ?_
  show ZW _ _ _ _ _ _ _ _ _ _ _ 7 _ [.ref 7] _ _ _
  refine ZW_sm (pc' := 8) (ls' := [some (.ref 0), some (.int a)]) (st' := [.int a, .ref 7]) (s_iload_n rfl (dk_pX11_weighs (7, .iload_n 1, 1) (List.mem_of_getElem? (i := 3) rfl))) (fun _ => rfl) ?_
  refine Z_callV (M := zem g M) (as := [.int a]) (b := 7) (st := []) (mt_X3_has _ _ _ _ hw) rfl (em_in (by omega)) (ci := 3) rfl (by decide) rfl mv_X3_has lm_RX11_87 rfl ⟨by decide, by decide⟩ rfl ⟨by decide, by decide⟩ (dk_pX11_weighs (8, .invokevirtual 87, 3) (List.mem_of_getElem? (i := 4) rfl)) ?_
  show ZW _ _ _ _ _ _ _ _ _ _ _ 11 [some (.ref 0), some (.int a)] [.int 1] _ _ _
  refine ZW_sm (pc' := 14) (ls' := [some (.ref 0), some (.int a)]) (st' := []) (s_ifeq (pc := 11) (t := 32) (by decide) (dk_pX11_weighs (11, .ifCond .eq 21, 3) (List.mem_of_getElem? (i := 5) rfl))) (fun _ => a_ifF rfl) ?_
  refine ZW_sm (pc' := 15) (ls' := [some (.ref 0), some (.int a)]) (st' := [.ref 0]) (s_aload_n rfl (dk_pX11_weighs (14, .aload_n 0, 1) (List.mem_of_getElem? (i := 6) rfl))) (fun _ => rfl) ?_
  refine Z_callG (as := []) (b := 0) (st := []) (lo := 240) hC (fun z hz => hz) hsub hnew trivial ⟨by omega, trivial⟩ (em_in (by omega)) (ci := 11) rfl (by decide) rfl mw_X11_theCouncil lc_RX11_270 rfl ⟨by decide, by decide⟩ rfl ⟨by decide, by decide⟩ (dk_pX11_weighs (15, .invokevirtual 270, 3) (List.mem_of_getElem? (i := 7) rfl)) ?_
  show ZW _ _ _ _ _ _ _ _ _ _ _ 18 [some (.ref 0), some (.int a)] [.ref 240] _ _ _
  refine ZW_sm (pc' := 19) (ls' := [some (.ref 0), some (.int a)]) (st' := [.ref 0, .ref 240]) (s_aload_n rfl (dk_pX11_weighs (18, .aload_n 0, 1) (List.mem_of_getElem? (i := 8) rfl))) (fun _ => rfl) ?_
  refine Z_get (em_in (by omega)) (ci := 11) (k := 1) rfl (by decide) (by decide) (Or.inl lf_RX11_19) (dk_pX11_weighs (19, .getfield 19, 3) (List.mem_of_getElem? (i := 9) rfl)) ?_
  show ZW _ _ _ _ _ _ _ _ _ _ _ 22 _ [.ref 6, .ref 240] _ _ _
  refine Z_get (em_in (by omega)) (ci := 10) (k := 0) rfl (by decide) (by decide) (Or.inl lf_RX11_60) (dk_pX11_weighs (22, .getfield 60, 3) (List.mem_of_getElem? (i := 10) rfl)) ?_
  show ZW _ _ _ _ _ _ _ _ _ _ _ 25 _ [.ref 7, .ref 240] _ _ _
  refine ZW_sm (pc' := 26) (ls' := [some (.ref 0), some (.int a)]) (st' := [.int a, .ref 7, .ref 240]) (s_iload_n rfl (dk_pX11_weighs (25, .iload_n 1, 1) (List.mem_of_getElem? (i := 11) rfl))) (fun _ => rfl) ?_
  refine Z_callV (M := zem g' M1) (as := [.ref 7, .int a]) (b := 240) (st := []) (mt_X2_weightOf _ _ _ _ hk) rfl (zVs_mem.2 (Or.inr (Or.inr ⟨hg2, by omega, by omega⟩))) (ci := 2) rfl (by decide) rfl mv_X2_weightOf lc_RX11_288 rfl ⟨by decide, by decide⟩ rfl ⟨by decide, by decide⟩ (dk_pX11_weighs (26, .invokevirtual 288, 3) (List.mem_of_getElem? (i := 12) rfl)) ?_
  show ZW _ _ _ _ _ _ _ _ _ _ _ 29 [some (.ref 0), some (.int a)] [.int v] _ _ _
  refine ZW_sm (pc' := 33) (ls' := [some (.ref 0), some (.int a)]) (st' := [.int v]) (s_goto (pc := 29) (t := 33) (by decide) (dk_pX11_weighs (29, .goto 4, 3) (List.mem_of_getElem? (i := 13) rfl))) (fun _ => rfl) ?_
  exact ZW_wide (k := 3) (n := 7230) (by decide) (by decide) (ZW_rt (s_iret rfl rfl rfl (dk_pX11_weighs (33, .ireturn, 1) (List.mem_of_getElem? (i := 15) rfl))) (fun _ => rfl))
def dl_pX11_serves : List (Nat × Instr × Nat) := [(0, .iload_n 1, 1), (1, .ifCond .ne 25, 3), (4, .aload_n 0, 1), (5, .invokevirtual 270, 3), (8, .aload_n 0, 1), (9, .getfield 19, 3), (12, .getfield 60, 3), (15, .aload_n 0, 1), (16, .getfield 19, 3), (19, .getfield 242, 3), (22, .invokevirtual 294, 3), (25, .ireturn, 1), (26, .iload_n 1, 1), (27, .bipush 10, 2), (29, .bipush 10, 2), (31, .aload_n 0, 1), (32, .getfield 19, 3), (35, .getfield 242, 3), (38, .getfield 298, 3), (41, .iadd, 1), (42, .iconst 1, 1), (43, .isub, 1), (44, .invokestatic 70, 3), (47, .ifCond .ne 5, 3), (50, .iconst (-1), 1), (51, .ireturn, 1), (52, .aload_n 0, 1), (53, .invokevirtual 270, 3), (56, .aload_n 0, 1), (57, .getfield 19, 3), (60, .getfield 60, 3), (63, .aload_n 0, 1), (64, .getfield 19, 3), (67, .getfield 242, 3), (70, .iload_n 1, 1), (71, .bipush 10, 2), (73, .isub, 1), (74, .invokevirtual 301, 3), (77, .ireturn, 1)]
set_option maxRecDepth 20000 in
theorem dk_pX11_serves : ∀ q ∈ dl_pX11_serves, decode cX11_serves q.1 = .ok q.2 := by decide +kernel
theorem lc_RX11_294 : zMl RX11 294 yX2_greatestService := zGt5 121 (by decide +kernel) rfl
set_option maxRecDepth 20000 in
theorem pa_serves1 {g g' : zg} {M M1 M2 : zM} (hg2 : g'.2 = true) (hC : zMt yX11_theCouncil cX11_theCouncil 1 (some (.object "SackedGlass$Council")) 2 3 7230 [.ref 0] (zem g M) (some (.ref 240)) (zem g' M1)) (hsub : ∀ x ∈ (zem g M).2.2.2, x ∈ (zem g' M1).2.2.2) (hnew : ∀ x ∈ (zem g' M1).2.2.2, x ∉ (zem g M).2.2.2 → 240 ≤ x) {a v : Int32} (ha : cEq0 a = true) (hk : X_X2_greatestService g' [.ref 240, .ref 7, .ref 32] M1 = some (some (.int v), M2)) : zMt yX11_serves cX11_serves 2 (some .int) 7 3 7230 [.ref 0, .int a] (zem g M) (some (.int v)) (zem g' M2) := by
  refine zMt_of (by decide +kernel) rfl (Nat.le_of_ble_eq_true rfl) ?_
  show ZW _ _ _ _ _ _ _ _ _ 0 0 0 [some (.ref 0), some (.int a)] [] (zem g M) _ _
  refine ZW_sm (pc' := 1) (ls' := [some (.ref 0), some (.int a)]) (st' := [.int a]) (s_iload_n rfl (dk_pX11_serves (0, .iload_n 1, 1) (List.mem_of_getElem? (i := 0) rfl))) (fun _ => rfl) ?_
  refine ZW_sm (pc' := 4) (ls' := [some (.ref 0), some (.int a)]) (st' := []) (s_ifne (pc := 1) (t := 26) (by decide) (dk_pX11_serves (1, .ifCond .ne 25, 3) (List.mem_of_getElem? (i := 1) rfl))) (fun _ => a_ifT ha) ?_
  refine ZW_sm (pc' := 5) (ls' := [some (.ref 0), some (.int a)]) (st' := [.ref 0]) (s_aload_n rfl (dk_pX11_serves (4, .aload_n 0, 1) (List.mem_of_getElem? (i := 2) rfl))) (fun _ => rfl) ?_
  refine Z_callG (as := []) (b := 0) (st := []) (lo := 240) hC (fun z hz => hz) hsub hnew trivial ⟨by omega, trivial⟩ (em_in (by omega)) (ci := 11) rfl (by decide) rfl mw_X11_theCouncil lc_RX11_270 rfl ⟨by decide, by decide⟩ rfl ⟨by decide, by decide⟩ (dk_pX11_serves (5, .invokevirtual 270, 3) (List.mem_of_getElem? (i := 3) rfl)) ?_
  show ZW _ _ _ _ _ _ _ _ _ _ _ 8 [some (.ref 0), some (.int a)] [.ref 240] _ _ _
  refine ZW_sm (pc' := 9) (ls' := [some (.ref 0), some (.int a)]) (st' := [.ref 0, .ref 240]) (s_aload_n rfl (dk_pX11_serves (8, .aload_n 0, 1) (List.mem_of_getElem? (i := 4) rfl))) (fun _ => rfl) ?_
  refine Z_get (em_in (by omega)) (ci := 11) (k := 1) rfl (by decide) (by decide) (Or.inl lf_RX11_19) (dk_pX11_serves (9, .getfield 19, 3) (List.mem_of_getElem? (i := 5) rfl)) ?_
  show ZW _ _ _ _ _ _ _ _ _ _ _ 12 _ [.ref 6, .ref 240] _ _ _
  refine Z_get (em_in (by omega)) (ci := 10) (k := 0) rfl (by decide) (by decide) (Or.inl lf_RX11_60) (dk_pX11_serves (12, .getfield 60, 3) (List.mem_of_getElem? (i := 6) rfl)) ?_
  show ZW _ _ _ _ _ _ _ _ _ _ _ 15 _ [.ref 7, .ref 240] _ _ _
  refine ZW_sm (pc' := 16) (ls' := [some (.ref 0), some (.int a)]) (st' := [.ref 0, .ref 7, .ref 240]) (s_aload_n rfl (dk_pX11_serves (15, .aload_n 0, 1) (List.mem_of_getElem? (i := 7) rfl))) (fun _ => rfl) ?_
  refine Z_get (em_in (by omega)) (ci := 11) (k := 1) rfl (by decide) (by decide) (Or.inl lf_RX11_19) (dk_pX11_serves (16, .getfield 19, 3) (List.mem_of_getElem? (i := 8) rfl)) ?_
  show ZW _ _ _ _ _ _ _ _ _ _ _ 19 _ [.ref 6, .ref 7, .ref 240] _ _ _
  refine Z_get (em_in (by omega)) (ci := 10) (k := 6) rfl (by decide) (by decide) (Or.inl lf_RX11_242) (dk_pX11_serves (19, .getfield 242, 3) (List.mem_of_getElem? (i := 9) rfl)) ?_
  show ZW _ _ _ _ _ _ _ _ _ _ _ 22 _ [.ref 32, .ref 7, .ref 240] _ _ _
  refine Z_callV (M := zem g' M1) (as := [.ref 7, .ref 32]) (b := 240) (st := []) (mt_X2_greatestService _ _ _ _ hk) rfl (zVs_mem.2 (Or.inr (Or.inr ⟨hg2, by omega, by omega⟩))) (ci := 2) rfl (by decide) rfl mv_X2_greatestService lc_RX11_294 rfl ⟨by decide, by decide⟩ rfl ⟨by decide, by decide⟩ (dk_pX11_serves (22, .invokevirtual 294, 3) (List.mem_of_getElem? (i := 10) rfl)) ?_
  show ZW _ _ _ _ _ _ _ _ _ _ _ 25 [some (.ref 0), some (.int a)] [.int v] _ _ _
  exact ZW_wide (k := 3) (n := 7230) (by decide) (by decide) (ZW_rt (s_iret rfl rfl rfl (dk_pX11_serves (25, .ireturn, 1) (List.mem_of_getElem? (i := 11) rfl))) (fun _ => rfl))
set_option maxRecDepth 20000 in
theorem pa_serves2 {g : zg} {M : zM} {a : Int32} (ha : cEq0 a = false) (hw : X_X11_within g [.int a, .int 10, .int ((10 + (M.1 32 8)) - 1)] M = some (some (.int 0), M)) : zMt yX11_serves cX11_serves 2 (some .int) 7 3 7230 [.ref 0, .int a] (zem g M) (some (.int (-1))) (zem g M) := by
  refine zMt_of (by decide +kernel) rfl (Nat.le_of_ble_eq_true rfl) ?_
  show ZW _ _ _ _ _ _ _ _ _ 0 0 0 [some (.ref 0), some (.int a)] [] (zem g M) _ _
  refine ZW_sm (pc' := 1) (ls' := [some (.ref 0), some (.int a)]) (st' := [.int a]) (s_iload_n rfl (dk_pX11_serves (0, .iload_n 1, 1) (List.mem_of_getElem? (i := 0) rfl))) (fun _ => rfl) ?_
  refine ZW_sm (pc' := 26) (ls' := [some (.ref 0), some (.int a)]) (st' := []) (s_ifne (pc := 1) (t := 26) (by decide) (dk_pX11_serves (1, .ifCond .ne 25, 3) (List.mem_of_getElem? (i := 1) rfl))) (fun _ => a_ifF ha) ?_
  refine ZW_sm (pc' := 27) (ls' := [some (.ref 0), some (.int a)]) (st' := [.int a]) (s_iload_n rfl (dk_pX11_serves (26, .iload_n 1, 1) (List.mem_of_getElem? (i := 12) rfl))) (fun _ => rfl) ?_
  refine ZW_sm (pc' := 29) (ls' := [some (.ref 0), some (.int a)]) (st' := [.int 10, .int a]) (s_bipush (v := 10) (by decide) (dk_pX11_serves (27, .bipush 10, 2) (List.mem_of_getElem? (i := 13) rfl))) (fun _ => rfl) ?_
  refine ZW_sm (pc' := 31) (ls' := [some (.ref 0), some (.int a)]) (st' := [.int 10, .int 10, .int a]) (s_bipush (v := 10) (by decide) (dk_pX11_serves (29, .bipush 10, 2) (List.mem_of_getElem? (i := 14) rfl))) (fun _ => rfl) ?_
  refine ZW_sm (pc' := 32) (ls' := [some (.ref 0), some (.int a)]) (st' := [.ref 0, .int 10, .int 10, .int a]) (s_aload_n rfl (dk_pX11_serves (31, .aload_n 0, 1) (List.mem_of_getElem? (i := 15) rfl))) (fun _ => rfl) ?_
  refine Z_get (em_in (by omega)) (ci := 11) (k := 1) rfl (by decide) (by decide) (Or.inl lf_RX11_19) (dk_pX11_serves (32, .getfield 19, 3) (List.mem_of_getElem? (i := 16) rfl)) ?_
  show ZW _ _ _ _ _ _ _ _ _ _ _ 35 _ [.ref 6, .int 10, .int 10, .int a] _ _ _
  refine Z_get (em_in (by omega)) (ci := 10) (k := 6) rfl (by decide) (by decide) (Or.inl lf_RX11_242) (dk_pX11_serves (35, .getfield 242, 3) (List.mem_of_getElem? (i := 17) rfl)) ?_
  show ZW _ _ _ _ _ _ _ _ _ _ _ 38 _ [.ref 32, .int 10, .int 10, .int a] _ _ _
  refine Z_get (em_in (by omega)) (ci := 6) (k := 8) rfl (by decide) (by decide) (Or.inl lf_RX11_298) (dk_pX11_serves (38, .getfield 298, 3) (List.mem_of_getElem? (i := 18) rfl)) ?_
  show ZW _ _ _ _ _ _ _ _ _ _ _ 41 _ [.int (M.1 32 8), .int 10, .int 10, .int a] _ _ _
  refine ZW_sm (pc' := 42) (ls' := [some (.ref 0), some (.int a)]) (st' := [.int (10 + (M.1 32 8)), .int 10, .int a]) (s_iadd (dk_pX11_serves (41, .iadd, 1) (List.mem_of_getElem? (i := 19) rfl))) (fun _ => rfl) ?_
  refine ZW_sm (pc' := 43) (ls' := [some (.ref 0), some (.int a)]) (st' := [.int 1, .int (10 + (M.1 32 8)), .int 10, .int a]) (s_iconst (v := 1) (by decide) (dk_pX11_serves (42, .iconst 1, 1) (List.mem_of_getElem? (i := 20) rfl))) (fun _ => rfl) ?_
  refine ZW_sm (pc' := 44) (ls' := [some (.ref 0), some (.int a)]) (st' := [.int ((10 + (M.1 32 8)) - 1), .int 10, .int a]) (s_isub (dk_pX11_serves (43, .isub, 1) (List.mem_of_getElem? (i := 21) rfl))) (fun _ => rfl) ?_
  refine Z_callS (M := zem g M) (as := [.int a, .int 10, .int ((10 + (M.1 32 8)) - 1)]) (st := []) (mt_X11_within _ _ _ _ hw) rfl mv_X11_within lm_RX11_70 rfl ⟨by decide, by decide⟩ rfl ⟨by decide, by decide⟩ (dk_pX11_serves (44, .invokestatic 70, 3) (List.mem_of_getElem? (i := 22) rfl)) ?_
  show ZW _ _ _ _ _ _ _ _ _ _ _ 47 [some (.ref 0), some (.int a)] [.int 0] _ _ _
  refine ZW_sm (pc' := 50) (ls' := [some (.ref 0), some (.int a)]) (st' := []) (s_ifne (pc := 47) (t := 52) (by decide) (dk_pX11_serves (47, .ifCond .ne 5, 3) (List.mem_of_getElem? (i := 23) rfl))) (fun _ => a_ifT rfl) ?_
  refine ZW_sm (pc' := 51) (ls' := [some (.ref 0), some (.int a)]) (st' := [.int (-1)]) (s_iconst (v := (-1)) (by decide) (dk_pX11_serves (50, .iconst (-1), 1) (List.mem_of_getElem? (i := 24) rfl))) (fun _ => rfl) ?_
  exact ZW_wide (k := 3) (n := 7230) (by decide) (by decide) (ZW_rt (s_iret rfl rfl rfl (dk_pX11_serves (51, .ireturn, 1) (List.mem_of_getElem? (i := 25) rfl))) (fun _ => rfl))
theorem lc_RX11_301 : zMl RX11 301 yX2_holderOf := zGt5 138 (by decide +kernel) rfl
set_option maxRecDepth 20000 in
theorem pa_serves3 {g g' : zg} {M M1 M2 : zM} (hg2 : g'.2 = true) (hC : zMt yX11_theCouncil cX11_theCouncil 1 (some (.object "SackedGlass$Council")) 2 3 7230 [.ref 0] (zem g M) (some (.ref 240)) (zem g' M1)) (hsub : ∀ x ∈ (zem g M).2.2.2, x ∈ (zem g' M1).2.2.2) (hnew : ∀ x ∈ (zem g' M1).2.2.2, x ∉ (zem g M).2.2.2 → 240 ≤ x) {a v : Int32} (ha : cEq0 a = false) (hw : X_X11_within g [.int a, .int 10, .int ((10 + (M.1 32 8)) - 1)] M = some (some (.int 1), M)) (hk : X_X2_holderOf g' [.ref 240, .ref 7, .ref 32, .int (a - 10)] M1 = some (some (.int v), M2)) : zMt yX11_serves cX11_serves 2 (some .int) 7 3 7230 [.ref 0, .int a] (zem g M) (some (.int v)) (zem g' M2) := by
  refine zMt_of (by decide +kernel) rfl (Nat.le_of_ble_eq_true rfl) ?_
  show ZW _ _ _ _ _ _ _ _ _ 0 0 0 [some (.ref 0), some (.int a)] [] (zem g M) _ _
  refine ZW_sm (pc' := 1) (ls' := [some (.ref 0), some (.int a)]) (st' := [.int a]) (s_iload_n rfl (dk_pX11_serves (0, .iload_n 1, 1) (List.mem_of_getElem? (i := 0) rfl))) (fun _ => rfl) ?_
  refine ZW_sm (pc' := 26) (ls' := [some (.ref 0), some (.int a)]) (st' := []) (s_ifne (pc := 1) (t := 26) (by decide) (dk_pX11_serves (1, .ifCond .ne 25, 3) (List.mem_of_getElem? (i := 1) rfl))) (fun _ => a_ifF ha) ?_
  refine ZW_sm (pc' := 27) (ls' := [some (.ref 0), some (.int a)]) (st' := [.int a]) (s_iload_n rfl (dk_pX11_serves (26, .iload_n 1, 1) (List.mem_of_getElem? (i := 12) rfl))) (fun _ => rfl) ?_
  refine ZW_sm (pc' := 29) (ls' := [some (.ref 0), some (.int a)]) (st' := [.int 10, .int a]) (s_bipush (v := 10) (by decide) (dk_pX11_serves (27, .bipush 10, 2) (List.mem_of_getElem? (i := 13) rfl))) (fun _ => rfl) ?_
  refine ZW_sm (pc' := 31) (ls' := [some (.ref 0), some (.int a)]) (st' := [.int 10, .int 10, .int a]) (s_bipush (v := 10) (by decide) (dk_pX11_serves (29, .bipush 10, 2) (List.mem_of_getElem? (i := 14) rfl))) (fun _ => rfl) ?_
  refine ZW_sm (pc' := 32) (ls' := [some (.ref 0), some (.int a)]) (st' := [.ref 0, .int 10, .int 10, .int a]) (s_aload_n rfl (dk_pX11_serves (31, .aload_n 0, 1) (List.mem_of_getElem? (i := 15) rfl))) (fun _ => rfl) ?_
  refine Z_get (em_in (by omega)) (ci := 11) (k := 1) rfl (by decide) (by decide) (Or.inl lf_RX11_19) (dk_pX11_serves (32, .getfield 19, 3) (List.mem_of_getElem? (i := 16) rfl)) ?_
  show ZW _ _ _ _ _ _ _ _ _ _ _ 35 _ [.ref 6, .int 10, .int 10, .int a] _ _ _
  refine Z_get (em_in (by omega)) (ci := 10) (k := 6) rfl (by decide) (by decide) (Or.inl lf_RX11_242) (dk_pX11_serves (35, .getfield 242, 3) (List.mem_of_getElem? (i := 17) rfl)) ?_
  show ZW _ _ _ _ _ _ _ _ _ _ _ 38 _ [.ref 32, .int 10, .int 10, .int a] _ _ _
  refine Z_get (em_in (by omega)) (ci := 6) (k := 8) rfl (by decide) (by decide) (Or.inl lf_RX11_298) (dk_pX11_serves (38, .getfield 298, 3) (List.mem_of_getElem? (i := 18) rfl)) ?_
  show ZW _ _ _ _ _ _ _ _ _ _ _ 41 _ [.int (M.1 32 8), .int 10, .int 10, .int a] _ _ _
  refine ZW_sm (pc' := 42) (ls' := [some (.ref 0), some (.int a)]) (st' := [.int (10 + (M.1 32 8)), .int 10, .int a]) (s_iadd (dk_pX11_serves (41, .iadd, 1) (List.mem_of_getElem? (i := 19) rfl))) (fun _ => rfl) ?_
  refine ZW_sm (pc' := 43) (ls' := [some (.ref 0), some (.int a)]) (st' := [.int 1, .int (10 + (M.1 32 8)), .int 10, .int a]) (s_iconst (v := 1) (by decide) (dk_pX11_serves (42, .iconst 1, 1) (List.mem_of_getElem? (i := 20) rfl))) (fun _ => rfl) ?_
  refine ZW_sm (pc' := 44) (ls' := [some (.ref 0), some (.int a)]) (st' := [.int ((10 + (M.1 32 8)) - 1), .int 10, .int a]) (s_isub (dk_pX11_serves (43, .isub, 1) (List.mem_of_getElem? (i := 21) rfl))) (fun _ => rfl) ?_
  refine Z_callS (M := zem g M) (as := [.int a, .int 10, .int ((10 + (M.1 32 8)) - 1)]) (st := []) (mt_X11_within _ _ _ _ hw) rfl mv_X11_within lm_RX11_70 rfl ⟨by decide, by decide⟩ rfl ⟨by decide, by decide⟩ (dk_pX11_serves (44, .invokestatic 70, 3) (List.mem_of_getElem? (i := 22) rfl)) ?_
  show ZW _ _ _ _ _ _ _ _ _ _ _ 47 [some (.ref 0), some (.int a)] [.int 1] _ _ _
  refine ZW_sm (pc' := 52) (ls' := [some (.ref 0), some (.int a)]) (st' := []) (s_ifne (pc := 47) (t := 52) (by decide) (dk_pX11_serves (47, .ifCond .ne 5, 3) (List.mem_of_getElem? (i := 23) rfl))) (fun _ => a_ifF rfl) ?_
  refine ZW_sm (pc' := 53) (ls' := [some (.ref 0), some (.int a)]) (st' := [.ref 0]) (s_aload_n rfl (dk_pX11_serves (52, .aload_n 0, 1) (List.mem_of_getElem? (i := 26) rfl))) (fun _ => rfl) ?_
  refine Z_callG (as := []) (b := 0) (st := []) (lo := 240) hC (fun z hz => hz) hsub hnew trivial ⟨by omega, trivial⟩ (em_in (by omega)) (ci := 11) rfl (by decide) rfl mw_X11_theCouncil lc_RX11_270 rfl ⟨by decide, by decide⟩ rfl ⟨by decide, by decide⟩ (dk_pX11_serves (53, .invokevirtual 270, 3) (List.mem_of_getElem? (i := 27) rfl)) ?_
  show ZW _ _ _ _ _ _ _ _ _ _ _ 56 [some (.ref 0), some (.int a)] [.ref 240] _ _ _
  refine ZW_sm (pc' := 57) (ls' := [some (.ref 0), some (.int a)]) (st' := [.ref 0, .ref 240]) (s_aload_n rfl (dk_pX11_serves (56, .aload_n 0, 1) (List.mem_of_getElem? (i := 28) rfl))) (fun _ => rfl) ?_
  refine Z_get (em_in (by omega)) (ci := 11) (k := 1) rfl (by decide) (by decide) (Or.inl lf_RX11_19) (dk_pX11_serves (57, .getfield 19, 3) (List.mem_of_getElem? (i := 29) rfl)) ?_
  show ZW _ _ _ _ _ _ _ _ _ _ _ 60 _ [.ref 6, .ref 240] _ _ _
  refine Z_get (em_in (by omega)) (ci := 10) (k := 0) rfl (by decide) (by decide) (Or.inl lf_RX11_60) (dk_pX11_serves (60, .getfield 60, 3) (List.mem_of_getElem? (i := 30) rfl)) ?_
  show ZW _ _ _ _ _ _ _ _ _ _ _ 63 _ [.ref 7, .ref 240] _ _ _
  refine ZW_sm (pc' := 64) (ls' := [some (.ref 0), some (.int a)]) (st' := [.ref 0, .ref 7, .ref 240]) (s_aload_n rfl (dk_pX11_serves (63, .aload_n 0, 1) (List.mem_of_getElem? (i := 31) rfl))) (fun _ => rfl) ?_
  refine Z_get (em_in (by omega)) (ci := 11) (k := 1) rfl (by decide) (by decide) (Or.inl lf_RX11_19) (dk_pX11_serves (64, .getfield 19, 3) (List.mem_of_getElem? (i := 32) rfl)) ?_
  show ZW _ _ _ _ _ _ _ _ _ _ _ 67 _ [.ref 6, .ref 7, .ref 240] _ _ _
  refine Z_get (em_in (by omega)) (ci := 10) (k := 6) rfl (by decide) (by decide) (Or.inl lf_RX11_242) (dk_pX11_serves (67, .getfield 242, 3) (List.mem_of_getElem? (i := 33) rfl)) ?_
  show ZW _ _ _ _ _ _ _ _ _ _ _ 70 _ [.ref 32, .ref 7, .ref 240] _ _ _
  refine ZW_sm (pc' := 71) (ls' := [some (.ref 0), some (.int a)]) (st' := [.int a, .ref 32, .ref 7, .ref 240]) (s_iload_n rfl (dk_pX11_serves (70, .iload_n 1, 1) (List.mem_of_getElem? (i := 34) rfl))) (fun _ => rfl) ?_
  refine ZW_sm (pc' := 73) (ls' := [some (.ref 0), some (.int a)]) (st' := [.int 10, .int a, .ref 32, .ref 7, .ref 240]) (s_bipush (v := 10) (by decide) (dk_pX11_serves (71, .bipush 10, 2) (List.mem_of_getElem? (i := 35) rfl))) (fun _ => rfl) ?_
  refine ZW_sm (pc' := 74) (ls' := [some (.ref 0), some (.int a)]) (st' := [.int (a - 10), .ref 32, .ref 7, .ref 240]) (s_isub (dk_pX11_serves (73, .isub, 1) (List.mem_of_getElem? (i := 36) rfl))) (fun _ => rfl) ?_
  refine Z_callV (M := zem g' M1) (as := [.ref 7, .ref 32, .int (a - 10)]) (b := 240) (st := []) (mt_X2_holderOf _ _ _ _ hk) rfl (zVs_mem.2 (Or.inr (Or.inr ⟨hg2, by omega, by omega⟩))) (ci := 2) rfl (by decide) rfl mv_X2_holderOf lc_RX11_301 rfl ⟨by decide, by decide⟩ rfl ⟨by decide, by decide⟩ (dk_pX11_serves (74, .invokevirtual 301, 3) (List.mem_of_getElem? (i := 37) rfl)) ?_
  show ZW _ _ _ _ _ _ _ _ _ _ _ 77 [some (.ref 0), some (.int a)] [.int v] _ _ _
  exact ZW_wide (k := 3) (n := 7230) (by decide) (by decide) (ZW_rt (s_iret rfl rfl rfl (dk_pX11_serves (77, .ireturn, 1) (List.mem_of_getElem? (i := 38) rfl))) (fun _ => rfl))
def dl_pX11_leaks : List (Nat × Instr × Nat) := [(0, .iload_n 2, 1), (1, .iconst 2, 1), (2, .if_icmp .ne 14, 3), (5, .aload_n 0, 1), (6, .getfield 19, 3), (9, .getfield 242, 3), (12, .invokevirtual 267, 3), (15, .ireturn, 1), (16, .iload_n 2, 1), (17, .iconst 0, 1), (18, .iconst 1, 1), (19, .invokestatic 70, 3), (22, .ifCond .eq 14, 3), (25, .iload_n 1, 1), (26, .iconst 0, 1), (27, .sipush 4095, 3), (30, .invokestatic 70, 3), (33, .ifCond .ne 5, 3), (36, .iconst (-1), 1), (37, .ireturn, 1), (38, .aload_n 0, 1), (39, .invokevirtual 270, 3), (42, .aload_n 0, 1), (43, .getfield 19, 3), (46, .getfield 242, 3), (49, .iload_n 1, 1), (50, .invokevirtual 274, 3), (53, .istore_n 3, 1), (54, .iload_n 3, 1), (55, .iconst (-1), 1), (56, .if_icmp .eq 8, 3), (59, .iload_n 2, 1), (60, .iconst 1, 1), (61, .if_icmp .ne 7, 3), (64, .iload_n 3, 1), (65, .goto 7, 3), (68, .iload_n 3, 1), (69, .invokestatic 280, 3), (72, .ireturn, 1)]
set_option maxRecDepth 20000 in
theorem dk_pX11_leaks : ∀ q ∈ dl_pX11_leaks, decode cX11_leaks q.1 = .ok q.2 := by decide +kernel
theorem lc_RX11_267 : zMl RX11 267 yX6_bestToAsk := zGt5 38 (by decide +kernel) rfl
set_option maxRecDepth 20000 in
theorem pa_leaks1 {g : zg} {M : zM} {a1 a2 v : Int32} (ha : cEq a2 2 = true) (hk : X_X6_bestToAsk g [.ref 32] M = some (some (.int v), M)) : zMt yX11_leaks cX11_leaks 4 (some .int) 4 3 7230 [.ref 0, .int a1, .int a2] (zem g M) (some (.int v)) (zem g M) := by
  refine zMt_of (by decide +kernel) rfl (Nat.le_of_ble_eq_true rfl) ?_
  show ZW _ _ _ _ _ _ _ _ _ 0 0 0 [some (.ref 0), some (.int a1), some (.int a2), none] [] (zem g M) _ _
  refine ZW_sm (pc' := 1) (ls' := [some (.ref 0), some (.int a1), some (.int a2), none]) (st' := [.int a2]) (s_iload_n rfl (dk_pX11_leaks (0, .iload_n 2, 1) (List.mem_of_getElem? (i := 0) rfl))) (fun _ => rfl) ?_
  refine ZW_sm (pc' := 2) (ls' := [some (.ref 0), some (.int a1), some (.int a2), none]) (st' := [.int 2, .int a2]) (s_iconst (v := 2) (by decide) (dk_pX11_leaks (1, .iconst 2, 1) (List.mem_of_getElem? (i := 1) rfl))) (fun _ => rfl) ?_
  refine ZW_sm (pc' := 5) (ls' := [some (.ref 0), some (.int a1), some (.int a2), none]) (st' := []) (s_cmne (pc := 2) (t := 16) (by decide) (dk_pX11_leaks (2, .if_icmp .ne 14, 3) (List.mem_of_getElem? (i := 2) rfl))) (fun _ => a_cmT ha) ?_
  refine ZW_sm (pc' := 6) (ls' := [some (.ref 0), some (.int a1), some (.int a2), none]) (st' := [.ref 0]) (s_aload_n rfl (dk_pX11_leaks (5, .aload_n 0, 1) (List.mem_of_getElem? (i := 3) rfl))) (fun _ => rfl) ?_
  refine Z_get (em_in (by omega)) (ci := 11) (k := 1) rfl (by decide) (by decide) (Or.inl lf_RX11_19) (dk_pX11_leaks (6, .getfield 19, 3) (List.mem_of_getElem? (i := 4) rfl)) ?_
  show ZW _ _ _ _ _ _ _ _ _ _ _ 9 _ [.ref 6] _ _ _
  refine Z_get (em_in (by omega)) (ci := 10) (k := 6) rfl (by decide) (by decide) (Or.inl lf_RX11_242) (dk_pX11_leaks (9, .getfield 242, 3) (List.mem_of_getElem? (i := 5) rfl)) ?_
  show ZW _ _ _ _ _ _ _ _ _ _ _ 12 _ [.ref 32] _ _ _
  refine Z_callV (M := zem g M) (as := []) (b := 32) (st := []) (mt_X6_bestToAsk _ _ _ _ hk) rfl (em_in (by omega)) (ci := 6) rfl (by decide) rfl mv_X6_bestToAsk lc_RX11_267 rfl ⟨by decide, by decide⟩ rfl ⟨by decide, by decide⟩ (dk_pX11_leaks (12, .invokevirtual 267, 3) (List.mem_of_getElem? (i := 6) rfl)) ?_
  show ZW _ _ _ _ _ _ _ _ _ _ _ 15 [some (.ref 0), some (.int a1), some (.int a2), none] [.int v] _ _ _
  exact ZW_wide (k := 3) (n := 7230) (by decide) (by decide) (ZW_rt (s_iret rfl rfl rfl (dk_pX11_leaks (15, .ireturn, 1) (List.mem_of_getElem? (i := 7) rfl))) (fun _ => rfl))
set_option maxRecDepth 20000 in
theorem pa_leaks2 {g : zg} {M : zM} {a1 a2 : Int32} (ha : cEq a2 2 = false) (hw : X_X11_within g [.int a2, .int 0, .int 1] M = some (some (.int 0), M)) : zMt yX11_leaks cX11_leaks 4 (some .int) 4 3 7230 [.ref 0, .int a1, .int a2] (zem g M) (some (.int (-1))) (zem g M) := by
  refine zMt_of (by decide +kernel) rfl (Nat.le_of_ble_eq_true rfl) ?_
  show ZW _ _ _ _ _ _ _ _ _ 0 0 0 [some (.ref 0), some (.int a1), some (.int a2), none] [] (zem g M) _ _
  refine ZW_sm (pc' := 1) (ls' := [some (.ref 0), some (.int a1), some (.int a2), none]) (st' := [.int a2]) (s_iload_n rfl (dk_pX11_leaks (0, .iload_n 2, 1) (List.mem_of_getElem? (i := 0) rfl))) (fun _ => rfl) ?_
  refine ZW_sm (pc' := 2) (ls' := [some (.ref 0), some (.int a1), some (.int a2), none]) (st' := [.int 2, .int a2]) (s_iconst (v := 2) (by decide) (dk_pX11_leaks (1, .iconst 2, 1) (List.mem_of_getElem? (i := 1) rfl))) (fun _ => rfl) ?_
  refine ZW_sm (pc' := 16) (ls' := [some (.ref 0), some (.int a1), some (.int a2), none]) (st' := []) (s_cmne (pc := 2) (t := 16) (by decide) (dk_pX11_leaks (2, .if_icmp .ne 14, 3) (List.mem_of_getElem? (i := 2) rfl))) (fun _ => a_cmF ha) ?_
  refine ZW_sm (pc' := 17) (ls' := [some (.ref 0), some (.int a1), some (.int a2), none]) (st' := [.int a2]) (s_iload_n rfl (dk_pX11_leaks (16, .iload_n 2, 1) (List.mem_of_getElem? (i := 8) rfl))) (fun _ => rfl) ?_
  refine ZW_sm (pc' := 18) (ls' := [some (.ref 0), some (.int a1), some (.int a2), none]) (st' := [.int 0, .int a2]) (s_iconst (v := 0) (by decide) (dk_pX11_leaks (17, .iconst 0, 1) (List.mem_of_getElem? (i := 9) rfl))) (fun _ => rfl) ?_
  refine ZW_sm (pc' := 19) (ls' := [some (.ref 0), some (.int a1), some (.int a2), none]) (st' := [.int 1, .int 0, .int a2]) (s_iconst (v := 1) (by decide) (dk_pX11_leaks (18, .iconst 1, 1) (List.mem_of_getElem? (i := 10) rfl))) (fun _ => rfl) ?_
  refine Z_callS (M := zem g M) (as := [.int a2, .int 0, .int 1]) (st := []) (mt_X11_within _ _ _ _ hw) rfl mv_X11_within lm_RX11_70 rfl ⟨by decide, by decide⟩ rfl ⟨by decide, by decide⟩ (dk_pX11_leaks (19, .invokestatic 70, 3) (List.mem_of_getElem? (i := 11) rfl)) ?_
  show ZW _ _ _ _ _ _ _ _ _ _ _ 22 [some (.ref 0), some (.int a1), some (.int a2), none] [.int 0] _ _ _
  refine ZW_sm (pc' := 36) (ls' := [some (.ref 0), some (.int a1), some (.int a2), none]) (st' := []) (s_ifeq (pc := 22) (t := 36) (by decide) (dk_pX11_leaks (22, .ifCond .eq 14, 3) (List.mem_of_getElem? (i := 12) rfl))) (fun _ => a_ifT rfl) ?_
  refine ZW_sm (pc' := 37) (ls' := [some (.ref 0), some (.int a1), some (.int a2), none]) (st' := [.int (-1)]) (s_iconst (v := (-1)) (by decide) (dk_pX11_leaks (36, .iconst (-1), 1) (List.mem_of_getElem? (i := 18) rfl))) (fun _ => rfl) ?_
  exact ZW_wide (k := 3) (n := 7230) (by decide) (by decide) (ZW_rt (s_iret rfl rfl rfl (dk_pX11_leaks (37, .ireturn, 1) (List.mem_of_getElem? (i := 19) rfl))) (fun _ => rfl))
set_option maxRecDepth 20000 in
theorem pa_leaks3 {g : zg} {M : zM} {a1 a2 : Int32} (ha : cEq a2 2 = false) (hw : X_X11_within g [.int a2, .int 0, .int 1] M = some (some (.int 1), M)) (hx : X_X11_within g [.int a1, .int 0, .int 4095] M = some (some (.int 0), M)) : zMt yX11_leaks cX11_leaks 4 (some .int) 4 3 7230 [.ref 0, .int a1, .int a2] (zem g M) (some (.int (-1))) (zem g M) := by
  refine zMt_of (by decide +kernel) rfl (Nat.le_of_ble_eq_true rfl) ?_
  show ZW _ _ _ _ _ _ _ _ _ 0 0 0 [some (.ref 0), some (.int a1), some (.int a2), none] [] (zem g M) _ _
  refine ZW_sm (pc' := 1) (ls' := [some (.ref 0), some (.int a1), some (.int a2), none]) (st' := [.int a2]) (s_iload_n rfl (dk_pX11_leaks (0, .iload_n 2, 1) (List.mem_of_getElem? (i := 0) rfl))) (fun _ => rfl) ?_
  refine ZW_sm (pc' := 2) (ls' := [some (.ref 0), some (.int a1), some (.int a2), none]) (st' := [.int 2, .int a2]) (s_iconst (v := 2) (by decide) (dk_pX11_leaks (1, .iconst 2, 1) (List.mem_of_getElem? (i := 1) rfl))) (fun _ => rfl) ?_
  refine ZW_sm (pc' := 16) (ls' := [some (.ref 0), some (.int a1), some (.int a2), none]) (st' := []) (s_cmne (pc := 2) (t := 16) (by decide) (dk_pX11_leaks (2, .if_icmp .ne 14, 3) (List.mem_of_getElem? (i := 2) rfl))) (fun _ => a_cmF ha) ?_
  refine ZW_sm (pc' := 17) (ls' := [some (.ref 0), some (.int a1), some (.int a2), none]) (st' := [.int a2]) (s_iload_n rfl (dk_pX11_leaks (16, .iload_n 2, 1) (List.mem_of_getElem? (i := 8) rfl))) (fun _ => rfl) ?_
  refine ZW_sm (pc' := 18) (ls' := [some (.ref 0), some (.int a1), some (.int a2), none]) (st' := [.int 0, .int a2]) (s_iconst (v := 0) (by decide) (dk_pX11_leaks (17, .iconst 0, 1) (List.mem_of_getElem? (i := 9) rfl))) (fun _ => rfl) ?_
  refine ZW_sm (pc' := 19) (ls' := [some (.ref 0), some (.int a1), some (.int a2), none]) (st' := [.int 1, .int 0, .int a2]) (s_iconst (v := 1) (by decide) (dk_pX11_leaks (18, .iconst 1, 1) (List.mem_of_getElem? (i := 10) rfl))) (fun _ => rfl) ?_
  refine Z_callS (M := zem g M) (as := [.int a2, .int 0, .int 1]) (st := []) (mt_X11_within _ _ _ _ hw) rfl mv_X11_within lm_RX11_70 rfl ⟨by decide, by decide⟩ rfl ⟨by decide, by decide⟩ (dk_pX11_leaks (19, .invokestatic 70, 3) (List.mem_of_getElem? (i := 11) rfl)) ?_
  show ZW _ _ _ _ _ _ _ _ _ _ _ 22 [some (.ref 0), some (.int a1), some (.int a2), none] [.int 1] _ _ _
  refine ZW_sm (pc' := 25) (ls' := [some (.ref 0), some (.int a1), some (.int a2), none]) (st' := []) (s_ifeq (pc := 22) (t := 36) (by decide) (dk_pX11_leaks (22, .ifCond .eq 14, 3) (List.mem_of_getElem? (i := 12) rfl))) (fun _ => a_ifF rfl) ?_
  refine ZW_sm (pc' := 26) (ls' := [some (.ref 0), some (.int a1), some (.int a2), none]) (st' := [.int a1]) (s_iload_n rfl (dk_pX11_leaks (25, .iload_n 1, 1) (List.mem_of_getElem? (i := 13) rfl))) (fun _ => rfl) ?_
  refine ZW_sm (pc' := 27) (ls' := [some (.ref 0), some (.int a1), some (.int a2), none]) (st' := [.int 0, .int a1]) (s_iconst (v := 0) (by decide) (dk_pX11_leaks (26, .iconst 0, 1) (List.mem_of_getElem? (i := 14) rfl))) (fun _ => rfl) ?_
  refine ZW_sm (pc' := 30) (ls' := [some (.ref 0), some (.int a1), some (.int a2), none]) (st' := [.int 4095, .int 0, .int a1]) (s_sipush (v := 4095) (by decide) (dk_pX11_leaks (27, .sipush 4095, 3) (List.mem_of_getElem? (i := 15) rfl))) (fun _ => rfl) ?_
  refine Z_callS (M := zem g M) (as := [.int a1, .int 0, .int 4095]) (st := []) (mt_X11_within _ _ _ _ hx) rfl mv_X11_within lm_RX11_70 rfl ⟨by decide, by decide⟩ rfl ⟨by decide, by decide⟩ (dk_pX11_leaks (30, .invokestatic 70, 3) (List.mem_of_getElem? (i := 16) rfl)) ?_
  show ZW _ _ _ _ _ _ _ _ _ _ _ 33 [some (.ref 0), some (.int a1), some (.int a2), none] [.int 0] _ _ _
  refine ZW_sm (pc' := 36) (ls' := [some (.ref 0), some (.int a1), some (.int a2), none]) (st' := []) (s_ifne (pc := 33) (t := 38) (by decide) (dk_pX11_leaks (33, .ifCond .ne 5, 3) (List.mem_of_getElem? (i := 17) rfl))) (fun _ => a_ifT rfl) ?_
  refine ZW_sm (pc' := 37) (ls' := [some (.ref 0), some (.int a1), some (.int a2), none]) (st' := [.int (-1)]) (s_iconst (v := (-1)) (by decide) (dk_pX11_leaks (36, .iconst (-1), 1) (List.mem_of_getElem? (i := 18) rfl))) (fun _ => rfl) ?_
  exact ZW_wide (k := 3) (n := 7230) (by decide) (by decide) (ZW_rt (s_iret rfl rfl rfl (dk_pX11_leaks (37, .ireturn, 1) (List.mem_of_getElem? (i := 19) rfl))) (fun _ => rfl))
theorem lc_RX11_274 : zMl RX11 274 yX2_leaking := zGt5 70 (by decide +kernel) rfl
set_option maxRecDepth 20000 in
theorem pa_leaks4 {g g' : zg} {M M1 M2 : zM} (hg2 : g'.2 = true) (hC : zMt yX11_theCouncil cX11_theCouncil 1 (some (.object "SackedGlass$Council")) 2 3 7230 [.ref 0] (zem g M) (some (.ref 240)) (zem g' M1)) (hsub : ∀ x ∈ (zem g M).2.2.2, x ∈ (zem g' M1).2.2.2) (hnew : ∀ x ∈ (zem g' M1).2.2.2, x ∉ (zem g M).2.2.2 → 240 ≤ x) {a1 a2 v : Int32} (ha : cEq a2 2 = false) (hw : X_X11_within g [.int a2, .int 0, .int 1] M = some (some (.int 1), M)) (hx : X_X11_within g [.int a1, .int 0, .int 4095] M = some (some (.int 1), M)) (hk : X_X2_leaking g' [.ref 240, .ref 32, .int a1] M1 = some (some (.int v), M2)) (hv : cEq v (-1) = true) : zMt yX11_leaks cX11_leaks 4 (some .int) 4 3 7230 [.ref 0, .int a1, .int a2] (zem g M) (some (.int v)) (zem g' M2) := by
  refine zMt_of (by decide +kernel) rfl (Nat.le_of_ble_eq_true rfl) ?_
  show ZW _ _ _ _ _ _ _ _ _ 0 0 0 [some (.ref 0), some (.int a1), some (.int a2), none] [] (zem g M) _ _
  refine ZW_sm (pc' := 1) (ls' := [some (.ref 0), some (.int a1), some (.int a2), none]) (st' := [.int a2]) (s_iload_n rfl (dk_pX11_leaks (0, .iload_n 2, 1) (List.mem_of_getElem? (i := 0) rfl))) (fun _ => rfl) ?_
  refine ZW_sm (pc' := 2) (ls' := [some (.ref 0), some (.int a1), some (.int a2), none]) (st' := [.int 2, .int a2]) (s_iconst (v := 2) (by decide) (dk_pX11_leaks (1, .iconst 2, 1) (List.mem_of_getElem? (i := 1) rfl))) (fun _ => rfl) ?_
  refine ZW_sm (pc' := 16) (ls' := [some (.ref 0), some (.int a1), some (.int a2), none]) (st' := []) (s_cmne (pc := 2) (t := 16) (by decide) (dk_pX11_leaks (2, .if_icmp .ne 14, 3) (List.mem_of_getElem? (i := 2) rfl))) (fun _ => a_cmF ha) ?_
  refine ZW_sm (pc' := 17) (ls' := [some (.ref 0), some (.int a1), some (.int a2), none]) (st' := [.int a2]) (s_iload_n rfl (dk_pX11_leaks (16, .iload_n 2, 1) (List.mem_of_getElem? (i := 8) rfl))) (fun _ => rfl) ?_
  refine ZW_sm (pc' := 18) (ls' := [some (.ref 0), some (.int a1), some (.int a2), none]) (st' := [.int 0, .int a2]) (s_iconst (v := 0) (by decide) (dk_pX11_leaks (17, .iconst 0, 1) (List.mem_of_getElem? (i := 9) rfl))) (fun _ => rfl) ?_
  refine ZW_sm (pc' := 19) (ls' := [some (.ref 0), some (.int a1), some (.int a2), none]) (st' := [.int 1, .int 0, .int a2]) (s_iconst (v := 1) (by decide) (dk_pX11_leaks (18, .iconst 1, 1) (List.mem_of_getElem? (i := 10) rfl))) (fun _ => rfl) ?_
  refine Z_callS (M := zem g M) (as := [.int a2, .int 0, .int 1]) (st := []) (mt_X11_within _ _ _ _ hw) rfl mv_X11_within lm_RX11_70 rfl ⟨by decide, by decide⟩ rfl ⟨by decide, by decide⟩ (dk_pX11_leaks (19, .invokestatic 70, 3) (List.mem_of_getElem? (i := 11) rfl)) ?_
  show ZW _ _ _ _ _ _ _ _ _ _ _ 22 [some (.ref 0), some (.int a1), some (.int a2), none] [.int 1] _ _ _
  refine ZW_sm (pc' := 25) (ls' := [some (.ref 0), some (.int a1), some (.int a2), none]) (st' := []) (s_ifeq (pc := 22) (t := 36) (by decide) (dk_pX11_leaks (22, .ifCond .eq 14, 3) (List.mem_of_getElem? (i := 12) rfl))) (fun _ => a_ifF rfl) ?_
  refine ZW_sm (pc' := 26) (ls' := [some (.ref 0), some (.int a1), some (.int a2), none]) (st' := [.int a1]) (s_iload_n rfl (dk_pX11_leaks (25, .iload_n 1, 1) (List.mem_of_getElem? (i := 13) rfl))) (fun _ => rfl) ?_
  refine ZW_sm (pc' := 27) (ls' := [some (.ref 0), some (.int a1), some (.int a2), none]) (st' := [.int 0, .int a1]) (s_iconst (v := 0) (by decide) (dk_pX11_leaks (26, .iconst 0, 1) (List.mem_of_getElem? (i := 14) rfl))) (fun _ => rfl) ?_
  refine ZW_sm (pc' := 30) (ls' := [some (.ref 0), some (.int a1), some (.int a2), none]) (st' := [.int 4095, .int 0, .int a1]) (s_sipush (v := 4095) (by decide) (dk_pX11_leaks (27, .sipush 4095, 3) (List.mem_of_getElem? (i := 15) rfl))) (fun _ => rfl) ?_
  refine Z_callS (M := zem g M) (as := [.int a1, .int 0, .int 4095]) (st := []) (mt_X11_within _ _ _ _ hx) rfl mv_X11_within lm_RX11_70 rfl ⟨by decide, by decide⟩ rfl ⟨by decide, by decide⟩ (dk_pX11_leaks (30, .invokestatic 70, 3) (List.mem_of_getElem? (i := 16) rfl)) ?_
  show ZW _ _ _ _ _ _ _ _ _ _ _ 33 [some (.ref 0), some (.int a1), some (.int a2), none] [.int 1] _ _ _
  refine ZW_sm (pc' := 38) (ls' := [some (.ref 0), some (.int a1), some (.int a2), none]) (st' := []) (s_ifne (pc := 33) (t := 38) (by decide) (dk_pX11_leaks (33, .ifCond .ne 5, 3) (List.mem_of_getElem? (i := 17) rfl))) (fun _ => a_ifF rfl) ?_
  refine ZW_sm (pc' := 39) (ls' := [some (.ref 0), some (.int a1), some (.int a2), none]) (st' := [.ref 0]) (s_aload_n rfl (dk_pX11_leaks (38, .aload_n 0, 1) (List.mem_of_getElem? (i := 20) rfl))) (fun _ => rfl) ?_
  refine Z_callG (as := []) (b := 0) (st := []) (lo := 240) hC (fun z hz => hz) hsub hnew trivial ⟨by omega, trivial⟩ (em_in (by omega)) (ci := 11) rfl (by decide) rfl mw_X11_theCouncil lc_RX11_270 rfl ⟨by decide, by decide⟩ rfl ⟨by decide, by decide⟩ (dk_pX11_leaks (39, .invokevirtual 270, 3) (List.mem_of_getElem? (i := 21) rfl)) ?_
  show ZW _ _ _ _ _ _ _ _ _ _ _ 42 [some (.ref 0), some (.int a1), some (.int a2), none] [.ref 240] _ _ _
  refine ZW_sm (pc' := 43) (ls' := [some (.ref 0), some (.int a1), some (.int a2), none]) (st' := [.ref 0, .ref 240]) (s_aload_n rfl (dk_pX11_leaks (42, .aload_n 0, 1) (List.mem_of_getElem? (i := 22) rfl))) (fun _ => rfl) ?_
  refine Z_get (em_in (by omega)) (ci := 11) (k := 1) rfl (by decide) (by decide) (Or.inl lf_RX11_19) (dk_pX11_leaks (43, .getfield 19, 3) (List.mem_of_getElem? (i := 23) rfl)) ?_
  show ZW _ _ _ _ _ _ _ _ _ _ _ 46 _ [.ref 6, .ref 240] _ _ _
  refine Z_get (em_in (by omega)) (ci := 10) (k := 6) rfl (by decide) (by decide) (Or.inl lf_RX11_242) (dk_pX11_leaks (46, .getfield 242, 3) (List.mem_of_getElem? (i := 24) rfl)) ?_
  show ZW _ _ _ _ _ _ _ _ _ _ _ 49 _ [.ref 32, .ref 240] _ _ _
  refine ZW_sm (pc' := 50) (ls' := [some (.ref 0), some (.int a1), some (.int a2), none]) (st' := [.int a1, .ref 32, .ref 240]) (s_iload_n rfl (dk_pX11_leaks (49, .iload_n 1, 1) (List.mem_of_getElem? (i := 25) rfl))) (fun _ => rfl) ?_
  refine Z_callV (M := zem g' M1) (as := [.ref 32, .int a1]) (b := 240) (st := []) (mt_X2_leaking _ _ _ _ hk) rfl (zVs_mem.2 (Or.inr (Or.inr ⟨hg2, by omega, by omega⟩))) (ci := 2) rfl (by decide) rfl mv_X2_leaking lc_RX11_274 rfl ⟨by decide, by decide⟩ rfl ⟨by decide, by decide⟩ (dk_pX11_leaks (50, .invokevirtual 274, 3) (List.mem_of_getElem? (i := 26) rfl)) ?_
  show ZW _ _ _ _ _ _ _ _ _ _ _ 53 [some (.ref 0), some (.int a1), some (.int a2), none] [.int v] _ _ _
  refine ZW_sm (pc' := 54) (ls' := [some (.ref 0), some (.int a1), some (.int a2), some (.int v)]) (st' := []) (s_istore_n rfl (by decide) (dk_pX11_leaks (53, .istore_n 3, 1) (List.mem_of_getElem? (i := 27) rfl))) (fun _ => rfl) ?_
  refine ZW_sm (pc' := 55) (ls' := [some (.ref 0), some (.int a1), some (.int a2), some (.int v)]) (st' := [.int v]) (s_iload_n rfl (dk_pX11_leaks (54, .iload_n 3, 1) (List.mem_of_getElem? (i := 28) rfl))) (fun _ => rfl) ?_
  refine ZW_sm (pc' := 56) (ls' := [some (.ref 0), some (.int a1), some (.int a2), some (.int v)]) (st' := [.int (-1), .int v]) (s_iconst (v := (-1)) (by decide) (dk_pX11_leaks (55, .iconst (-1), 1) (List.mem_of_getElem? (i := 29) rfl))) (fun _ => rfl) ?_
  refine ZW_sm (pc' := 64) (ls' := [some (.ref 0), some (.int a1), some (.int a2), some (.int v)]) (st' := []) (s_cmeq (pc := 56) (t := 64) (by decide) (dk_pX11_leaks (56, .if_icmp .eq 8, 3) (List.mem_of_getElem? (i := 30) rfl))) (fun _ => a_cmT hv) ?_
  refine ZW_sm (pc' := 65) (ls' := [some (.ref 0), some (.int a1), some (.int a2), some (.int v)]) (st' := [.int v]) (s_iload_n rfl (dk_pX11_leaks (64, .iload_n 3, 1) (List.mem_of_getElem? (i := 34) rfl))) (fun _ => rfl) ?_
  refine ZW_sm (pc' := 72) (ls' := [some (.ref 0), some (.int a1), some (.int a2), some (.int v)]) (st' := [.int v]) (s_goto (pc := 65) (t := 72) (by decide) (dk_pX11_leaks (65, .goto 7, 3) (List.mem_of_getElem? (i := 35) rfl))) (fun _ => rfl) ?_
  exact ZW_wide (k := 3) (n := 7230) (by decide) (by decide) (ZW_rt (s_iret rfl rfl rfl (dk_pX11_leaks (72, .ireturn, 1) (List.mem_of_getElem? (i := 38) rfl))) (fun _ => rfl))
set_option maxRecDepth 20000 in
theorem pa_leaks5 {g g' : zg} {M M1 M2 : zM} (hg2 : g'.2 = true) (hC : zMt yX11_theCouncil cX11_theCouncil 1 (some (.object "SackedGlass$Council")) 2 3 7230 [.ref 0] (zem g M) (some (.ref 240)) (zem g' M1)) (hsub : ∀ x ∈ (zem g M).2.2.2, x ∈ (zem g' M1).2.2.2) (hnew : ∀ x ∈ (zem g' M1).2.2.2, x ∉ (zem g M).2.2.2 → 240 ≤ x) {a1 a2 v : Int32} (ha : cEq a2 2 = false) (hw : X_X11_within g [.int a2, .int 0, .int 1] M = some (some (.int 1), M)) (hx : X_X11_within g [.int a1, .int 0, .int 4095] M = some (some (.int 1), M)) (hk : X_X2_leaking g' [.ref 240, .ref 32, .int a1] M1 = some (some (.int v), M2)) (hv : cEq v (-1) = false) (hq : cEq a2 1 = true) : zMt yX11_leaks cX11_leaks 4 (some .int) 4 3 7230 [.ref 0, .int a1, .int a2] (zem g M) (some (.int v)) (zem g' M2) := by
  refine zMt_of (by decide +kernel) rfl (Nat.le_of_ble_eq_true rfl) ?_
  show ZW _ _ _ _ _ _ _ _ _ 0 0 0 [some (.ref 0), some (.int a1), some (.int a2), none] [] (zem g M) _ _
  refine ZW_sm (pc' := 1) (ls' := [some (.ref 0), some (.int a1), some (.int a2), none]) (st' := [.int a2]) (s_iload_n rfl (dk_pX11_leaks (0, .iload_n 2, 1) (List.mem_of_getElem? (i := 0) rfl))) (fun _ => rfl) ?_
  refine ZW_sm (pc' := 2) (ls' := [some (.ref 0), some (.int a1), some (.int a2), none]) (st' := [.int 2, .int a2]) (s_iconst (v := 2) (by decide) (dk_pX11_leaks (1, .iconst 2, 1) (List.mem_of_getElem? (i := 1) rfl))) (fun _ => rfl) ?_
  refine ZW_sm (pc' := 16) (ls' := [some (.ref 0), some (.int a1), some (.int a2), none]) (st' := []) (s_cmne (pc := 2) (t := 16) (by decide) (dk_pX11_leaks (2, .if_icmp .ne 14, 3) (List.mem_of_getElem? (i := 2) rfl))) (fun _ => a_cmF ha) ?_
  refine ZW_sm (pc' := 17) (ls' := [some (.ref 0), some (.int a1), some (.int a2), none]) (st' := [.int a2]) (s_iload_n rfl (dk_pX11_leaks (16, .iload_n 2, 1) (List.mem_of_getElem? (i := 8) rfl))) (fun _ => rfl) ?_
  refine ZW_sm (pc' := 18) (ls' := [some (.ref 0), some (.int a1), some (.int a2), none]) (st' := [.int 0, .int a2]) (s_iconst (v := 0) (by decide) (dk_pX11_leaks (17, .iconst 0, 1) (List.mem_of_getElem? (i := 9) rfl))) (fun _ => rfl) ?_
  refine ZW_sm (pc' := 19) (ls' := [some (.ref 0), some (.int a1), some (.int a2), none]) (st' := [.int 1, .int 0, .int a2]) (s_iconst (v := 1) (by decide) (dk_pX11_leaks (18, .iconst 1, 1) (List.mem_of_getElem? (i := 10) rfl))) (fun _ => rfl) ?_
  refine Z_callS (M := zem g M) (as := [.int a2, .int 0, .int 1]) (st := []) (mt_X11_within _ _ _ _ hw) rfl mv_X11_within lm_RX11_70 rfl ⟨by decide, by decide⟩ rfl ⟨by decide, by decide⟩ (dk_pX11_leaks (19, .invokestatic 70, 3) (List.mem_of_getElem? (i := 11) rfl)) ?_
  show ZW _ _ _ _ _ _ _ _ _ _ _ 22 [some (.ref 0), some (.int a1), some (.int a2), none] [.int 1] _ _ _
  refine ZW_sm (pc' := 25) (ls' := [some (.ref 0), some (.int a1), some (.int a2), none]) (st' := []) (s_ifeq (pc := 22) (t := 36) (by decide) (dk_pX11_leaks (22, .ifCond .eq 14, 3) (List.mem_of_getElem? (i := 12) rfl))) (fun _ => a_ifF rfl) ?_
  refine ZW_sm (pc' := 26) (ls' := [some (.ref 0), some (.int a1), some (.int a2), none]) (st' := [.int a1]) (s_iload_n rfl (dk_pX11_leaks (25, .iload_n 1, 1) (List.mem_of_getElem? (i := 13) rfl))) (fun _ => rfl) ?_
  refine ZW_sm (pc' := 27) (ls' := [some (.ref 0), some (.int a1), some (.int a2), none]) (st' := [.int 0, .int a1]) (s_iconst (v := 0) (by decide) (dk_pX11_leaks (26, .iconst 0, 1) (List.mem_of_getElem? (i := 14) rfl))) (fun _ => rfl) ?_
  refine ZW_sm (pc' := 30) (ls' := [some (.ref 0), some (.int a1), some (.int a2), none]) (st' := [.int 4095, .int 0, .int a1]) (s_sipush (v := 4095) (by decide) (dk_pX11_leaks (27, .sipush 4095, 3) (List.mem_of_getElem? (i := 15) rfl))) (fun _ => rfl) ?_
  refine Z_callS (M := zem g M) (as := [.int a1, .int 0, .int 4095]) (st := []) (mt_X11_within _ _ _ _ hx) rfl mv_X11_within lm_RX11_70 rfl ⟨by decide, by decide⟩ rfl ⟨by decide, by decide⟩ (dk_pX11_leaks (30, .invokestatic 70, 3) (List.mem_of_getElem? (i := 16) rfl)) ?_
  show ZW _ _ _ _ _ _ _ _ _ _ _ 33 [some (.ref 0), some (.int a1), some (.int a2), none] [.int 1] _ _ _
  refine ZW_sm (pc' := 38) (ls' := [some (.ref 0), some (.int a1), some (.int a2), none]) (st' := []) (s_ifne (pc := 33) (t := 38) (by decide) (dk_pX11_leaks (33, .ifCond .ne 5, 3) (List.mem_of_getElem? (i := 17) rfl))) (fun _ => a_ifF rfl) ?_
  refine ZW_sm (pc' := 39) (ls' := [some (.ref 0), some (.int a1), some (.int a2), none]) (st' := [.ref 0]) (s_aload_n rfl (dk_pX11_leaks (38, .aload_n 0, 1) (List.mem_of_getElem? (i := 20) rfl))) (fun _ => rfl) ?_
  refine Z_callG (as := []) (b := 0) (st := []) (lo := 240) hC (fun z hz => hz) hsub hnew trivial ⟨by omega, trivial⟩ (em_in (by omega)) (ci := 11) rfl (by decide) rfl mw_X11_theCouncil lc_RX11_270 rfl ⟨by decide, by decide⟩ rfl ⟨by decide, by decide⟩ (dk_pX11_leaks (39, .invokevirtual 270, 3) (List.mem_of_getElem? (i := 21) rfl)) ?_
  show ZW _ _ _ _ _ _ _ _ _ _ _ 42 [some (.ref 0), some (.int a1), some (.int a2), none] [.ref 240] _ _ _
  refine ZW_sm (pc' := 43) (ls' := [some (.ref 0), some (.int a1), some (.int a2), none]) (st' := [.ref 0, .ref 240]) (s_aload_n rfl (dk_pX11_leaks (42, .aload_n 0, 1) (List.mem_of_getElem? (i := 22) rfl))) (fun _ => rfl) ?_
  refine Z_get (em_in (by omega)) (ci := 11) (k := 1) rfl (by decide) (by decide) (Or.inl lf_RX11_19) (dk_pX11_leaks (43, .getfield 19, 3) (List.mem_of_getElem? (i := 23) rfl)) ?_
  show ZW _ _ _ _ _ _ _ _ _ _ _ 46 _ [.ref 6, .ref 240] _ _ _
  refine Z_get (em_in (by omega)) (ci := 10) (k := 6) rfl (by decide) (by decide) (Or.inl lf_RX11_242) (dk_pX11_leaks (46, .getfield 242, 3) (List.mem_of_getElem? (i := 24) rfl)) ?_
  show ZW _ _ _ _ _ _ _ _ _ _ _ 49 _ [.ref 32, .ref 240] _ _ _
  refine ZW_sm (pc' := 50) (ls' := [some (.ref 0), some (.int a1), some (.int a2), none]) (st' := [.int a1, .ref 32, .ref 240]) (s_iload_n rfl (dk_pX11_leaks (49, .iload_n 1, 1) (List.mem_of_getElem? (i := 25) rfl))) (fun _ => rfl) ?_
  refine Z_callV (M := zem g' M1) (as := [.ref 32, .int a1]) (b := 240) (st := []) (mt_X2_leaking _ _ _ _ hk) rfl (zVs_mem.2 (Or.inr (Or.inr ⟨hg2, by omega, by omega⟩))) (ci := 2) rfl (by decide) rfl mv_X2_leaking lc_RX11_274 rfl ⟨by decide, by decide⟩ rfl ⟨by decide, by decide⟩ (dk_pX11_leaks (50, .invokevirtual 274, 3) (List.mem_of_getElem? (i := 26) rfl)) ?_
  show ZW _ _ _ _ _ _ _ _ _ _ _ 53 [some (.ref 0), some (.int a1), some (.int a2), none] [.int v] _ _ _
  refine ZW_sm (pc' := 54) (ls' := [some (.ref 0), some (.int a1), some (.int a2), some (.int v)]) (st' := []) (s_istore_n rfl (by decide) (dk_pX11_leaks (53, .istore_n 3, 1) (List.mem_of_getElem? (i := 27) rfl))) (fun _ => rfl) ?_
  refine ZW_sm (pc' := 55) (ls' := [some (.ref 0), some (.int a1), some (.int a2), some (.int v)]) (st' := [.int v]) (s_iload_n rfl (dk_pX11_leaks (54, .iload_n 3, 1) (List.mem_of_getElem? (i := 28) rfl))) (fun _ => rfl) ?_
  refine ZW_sm (pc' := 56) (ls' := [some (.ref 0), some (.int a1), some (.int a2), some (.int v)]) (st' := [.int (-1), .int v]) (s_iconst (v := (-1)) (by decide) (dk_pX11_leaks (55, .iconst (-1), 1) (List.mem_of_getElem? (i := 29) rfl))) (fun _ => rfl) ?_
  refine ZW_sm (pc' := 59) (ls' := [some (.ref 0), some (.int a1), some (.int a2), some (.int v)]) (st' := []) (s_cmeq (pc := 56) (t := 64) (by decide) (dk_pX11_leaks (56, .if_icmp .eq 8, 3) (List.mem_of_getElem? (i := 30) rfl))) (fun _ => a_cmF hv) ?_
  refine ZW_sm (pc' := 60) (ls' := [some (.ref 0), some (.int a1), some (.int a2), some (.int v)]) (st' := [.int a2]) (s_iload_n rfl (dk_pX11_leaks (59, .iload_n 2, 1) (List.mem_of_getElem? (i := 31) rfl))) (fun _ => rfl) ?_
  refine ZW_sm (pc' := 61) (ls' := [some (.ref 0), some (.int a1), some (.int a2), some (.int v)]) (st' := [.int 1, .int a2]) (s_iconst (v := 1) (by decide) (dk_pX11_leaks (60, .iconst 1, 1) (List.mem_of_getElem? (i := 32) rfl))) (fun _ => rfl) ?_
  refine ZW_sm (pc' := 64) (ls' := [some (.ref 0), some (.int a1), some (.int a2), some (.int v)]) (st' := []) (s_cmne (pc := 61) (t := 68) (by decide) (dk_pX11_leaks (61, .if_icmp .ne 7, 3) (List.mem_of_getElem? (i := 33) rfl))) (fun _ => a_cmT hq) ?_
  refine ZW_sm (pc' := 65) (ls' := [some (.ref 0), some (.int a1), some (.int a2), some (.int v)]) (st' := [.int v]) (s_iload_n rfl (dk_pX11_leaks (64, .iload_n 3, 1) (List.mem_of_getElem? (i := 34) rfl))) (fun _ => rfl) ?_
  refine ZW_sm (pc' := 72) (ls' := [some (.ref 0), some (.int a1), some (.int a2), some (.int v)]) (st' := [.int v]) (s_goto (pc := 65) (t := 72) (by decide) (dk_pX11_leaks (65, .goto 7, 3) (List.mem_of_getElem? (i := 35) rfl))) (fun _ => rfl) ?_
  exact ZW_wide (k := 3) (n := 7230) (by decide) (by decide) (ZW_rt (s_iret rfl rfl rfl (dk_pX11_leaks (72, .ireturn, 1) (List.mem_of_getElem? (i := 38) rfl))) (fun _ => rfl))
set_option maxRecDepth 20000 in
theorem pa_leaks6 {g g' : zg} {M M1 M2 : zM} (hg2 : g'.2 = true) (hC : zMt yX11_theCouncil cX11_theCouncil 1 (some (.object "SackedGlass$Council")) 2 3 7230 [.ref 0] (zem g M) (some (.ref 240)) (zem g' M1)) (hsub : ∀ x ∈ (zem g M).2.2.2, x ∈ (zem g' M1).2.2.2) (hnew : ∀ x ∈ (zem g' M1).2.2.2, x ∉ (zem g M).2.2.2 → 240 ≤ x) {a1 a2 v : Int32} (ha : cEq a2 2 = false) (hw : X_X11_within g [.int a2, .int 0, .int 1] M = some (some (.int 1), M)) (hx : X_X11_within g [.int a1, .int 0, .int 4095] M = some (some (.int 1), M)) (hk : X_X2_leaking g' [.ref 240, .ref 32, .int a1] M1 = some (some (.int v), M2)) (hv : cEq v (-1) = false) (hq : cEq a2 1 = false) {w : Int32} (hb : X_J6_bitCount_0f7a4 g' [.int v] M2 = some (some (.int w), M2)) : zMt yX11_leaks cX11_leaks 4 (some .int) 4 3 7230 [.ref 0, .int a1, .int a2] (zem g M) (some (.int w)) (zem g' M2) := by
  refine zMt_of (by decide +kernel) rfl (Nat.le_of_ble_eq_true rfl) ?_
  show ZW _ _ _ _ _ _ _ _ _ 0 0 0 [some (.ref 0), some (.int a1), some (.int a2), none] [] (zem g M) _ _
  refine ZW_sm (pc' := 1) (ls' := [some (.ref 0), some (.int a1), some (.int a2), none]) (st' := [.int a2]) (s_iload_n rfl (dk_pX11_leaks (0, .iload_n 2, 1) (List.mem_of_getElem? (i := 0) rfl))) (fun _ => rfl) ?_
  refine ZW_sm (pc' := 2) (ls' := [some (.ref 0), some (.int a1), some (.int a2), none]) (st' := [.int 2, .int a2]) (s_iconst (v := 2) (by decide) (dk_pX11_leaks (1, .iconst 2, 1) (List.mem_of_getElem? (i := 1) rfl))) (fun _ => rfl) ?_
  refine ZW_sm (pc' := 16) (ls' := [some (.ref 0), some (.int a1), some (.int a2), none]) (st' := []) (s_cmne (pc := 2) (t := 16) (by decide) (dk_pX11_leaks (2, .if_icmp .ne 14, 3) (List.mem_of_getElem? (i := 2) rfl))) (fun _ => a_cmF ha) ?_
  refine ZW_sm (pc' := 17) (ls' := [some (.ref 0), some (.int a1), some (.int a2), none]) (st' := [.int a2]) (s_iload_n rfl (dk_pX11_leaks (16, .iload_n 2, 1) (List.mem_of_getElem? (i := 8) rfl))) (fun _ => rfl) ?_
  refine ZW_sm (pc' := 18) (ls' := [some (.ref 0), some (.int a1), some (.int a2), none]) (st' := [.int 0, .int a2]) (s_iconst (v := 0) (by decide) (dk_pX11_leaks (17, .iconst 0, 1) (List.mem_of_getElem? (i := 9) rfl))) (fun _ => rfl) ?_
  refine ZW_sm (pc' := 19) (ls' := [some (.ref 0), some (.int a1), some (.int a2), none]) (st' := [.int 1, .int 0, .int a2]) (s_iconst (v := 1) (by decide) (dk_pX11_leaks (18, .iconst 1, 1) (List.mem_of_getElem? (i := 10) rfl))) (fun _ => rfl) ?_
  refine Z_callS (M := zem g M) (as := [.int a2, .int 0, .int 1]) (st := []) (mt_X11_within _ _ _ _ hw) rfl mv_X11_within lm_RX11_70 rfl ⟨by decide, by decide⟩ rfl ⟨by decide, by decide⟩ (dk_pX11_leaks (19, .invokestatic 70, 3) (List.mem_of_getElem? (i := 11) rfl)) ?_
  show ZW _ _ _ _ _ _ _ _ _ _ _ 22 [some (.ref 0), some (.int a1), some (.int a2), none] [.int 1] _ _ _
  refine ZW_sm (pc' := 25) (ls' := [some (.ref 0), some (.int a1), some (.int a2), none]) (st' := []) (s_ifeq (pc := 22) (t := 36) (by decide) (dk_pX11_leaks (22, .ifCond .eq 14, 3) (List.mem_of_getElem? (i := 12) rfl))) (fun _ => a_ifF rfl) ?_
  refine ZW_sm (pc' := 26) (ls' := [some (.ref 0), some (.int a1), some (.int a2), none]) (st' := [.int a1]) (s_iload_n rfl (dk_pX11_leaks (25, .iload_n 1, 1) (List.mem_of_getElem? (i := 13) rfl))) (fun _ => rfl) ?_
  refine ZW_sm (pc' := 27) (ls' := [some (.ref 0), some (.int a1), some (.int a2), none]) (st' := [.int 0, .int a1]) (s_iconst (v := 0) (by decide) (dk_pX11_leaks (26, .iconst 0, 1) (List.mem_of_getElem? (i := 14) rfl))) (fun _ => rfl) ?_
  refine ZW_sm (pc' := 30) (ls' := [some (.ref 0), some (.int a1), some (.int a2), none]) (st' := [.int 4095, .int 0, .int a1]) (s_sipush (v := 4095) (by decide) (dk_pX11_leaks (27, .sipush 4095, 3) (List.mem_of_getElem? (i := 15) rfl))) (fun _ => rfl) ?_
  refine Z_callS (M := zem g M) (as := [.int a1, .int 0, .int 4095]) (st := []) (mt_X11_within _ _ _ _ hx) rfl mv_X11_within lm_RX11_70 rfl ⟨by decide, by decide⟩ rfl ⟨by decide, by decide⟩ (dk_pX11_leaks (30, .invokestatic 70, 3) (List.mem_of_getElem? (i := 16) rfl)) ?_
  show ZW _ _ _ _ _ _ _ _ _ _ _ 33 [some (.ref 0), some (.int a1), some (.int a2), none] [.int 1] _ _ _
  refine ZW_sm (pc' := 38) (ls' := [some (.ref 0), some (.int a1), some (.int a2), none]) (st' := []) (s_ifne (pc := 33) (t := 38) (by decide) (dk_pX11_leaks (33, .ifCond .ne 5, 3) (List.mem_of_getElem? (i := 17) rfl))) (fun _ => a_ifF rfl) ?_
  refine ZW_sm (pc' := 39) (ls' := [some (.ref 0), some (.int a1), some (.int a2), none]) (st' := [.ref 0]) (s_aload_n rfl (dk_pX11_leaks (38, .aload_n 0, 1) (List.mem_of_getElem? (i := 20) rfl))) (fun _ => rfl) ?_
  refine Z_callG (as := []) (b := 0) (st := []) (lo := 240) hC (fun z hz => hz) hsub hnew trivial ⟨by omega, trivial⟩ (em_in (by omega)) (ci := 11) rfl (by decide) rfl mw_X11_theCouncil lc_RX11_270 rfl ⟨by decide, by decide⟩ rfl ⟨by decide, by decide⟩ (dk_pX11_leaks (39, .invokevirtual 270, 3) (List.mem_of_getElem? (i := 21) rfl)) ?_
  show ZW _ _ _ _ _ _ _ _ _ _ _ 42 [some (.ref 0), some (.int a1), some (.int a2), none] [.ref 240] _ _ _
  refine ZW_sm (pc' := 43) (ls' := [some (.ref 0), some (.int a1), some (.int a2), none]) (st' := [.ref 0, .ref 240]) (s_aload_n rfl (dk_pX11_leaks (42, .aload_n 0, 1) (List.mem_of_getElem? (i := 22) rfl))) (fun _ => rfl) ?_
  refine Z_get (em_in (by omega)) (ci := 11) (k := 1) rfl (by decide) (by decide) (Or.inl lf_RX11_19) (dk_pX11_leaks (43, .getfield 19, 3) (List.mem_of_getElem? (i := 23) rfl)) ?_
  show ZW _ _ _ _ _ _ _ _ _ _ _ 46 _ [.ref 6, .ref 240] _ _ _
  refine Z_get (em_in (by omega)) (ci := 10) (k := 6) rfl (by decide) (by decide) (Or.inl lf_RX11_242) (dk_pX11_leaks (46, .getfield 242, 3) (List.mem_of_getElem? (i := 24) rfl)) ?_
  show ZW _ _ _ _ _ _ _ _ _ _ _ 49 _ [.ref 32, .ref 240] _ _ _
  refine ZW_sm (pc' := 50) (ls' := [some (.ref 0), some (.int a1), some (.int a2), none]) (st' := [.int a1, .ref 32, .ref 240]) (s_iload_n rfl (dk_pX11_leaks (49, .iload_n 1, 1) (List.mem_of_getElem? (i := 25) rfl))) (fun _ => rfl) ?_
  refine Z_callV (M := zem g' M1) (as := [.ref 32, .int a1]) (b := 240) (st := []) (mt_X2_leaking _ _ _ _ hk) rfl (zVs_mem.2 (Or.inr (Or.inr ⟨hg2, by omega, by omega⟩))) (ci := 2) rfl (by decide) rfl mv_X2_leaking lc_RX11_274 rfl ⟨by decide, by decide⟩ rfl ⟨by decide, by decide⟩ (dk_pX11_leaks (50, .invokevirtual 274, 3) (List.mem_of_getElem? (i := 26) rfl)) ?_
  show ZW _ _ _ _ _ _ _ _ _ _ _ 53 [some (.ref 0), some (.int a1), some (.int a2), none] [.int v] _ _ _
  refine ZW_sm (pc' := 54) (ls' := [some (.ref 0), some (.int a1), some (.int a2), some (.int v)]) (st' := []) (s_istore_n rfl (by decide) (dk_pX11_leaks (53, .istore_n 3, 1) (List.mem_of_getElem? (i := 27) rfl))) (fun _ => rfl) ?_
  refine ZW_sm (pc' := 55) (ls' := [some (.ref 0), some (.int a1), some (.int a2), some (.int v)]) (st' := [.int v]) (s_iload_n rfl (dk_pX11_leaks (54, .iload_n 3, 1) (List.mem_of_getElem? (i := 28) rfl))) (fun _ => rfl) ?_
  refine ZW_sm (pc' := 56) (ls' := [some (.ref 0), some (.int a1), some (.int a2), some (.int v)]) (st' := [.int (-1), .int v]) (s_iconst (v := (-1)) (by decide) (dk_pX11_leaks (55, .iconst (-1), 1) (List.mem_of_getElem? (i := 29) rfl))) (fun _ => rfl) ?_
  refine ZW_sm (pc' := 59) (ls' := [some (.ref 0), some (.int a1), some (.int a2), some (.int v)]) (st' := []) (s_cmeq (pc := 56) (t := 64) (by decide) (dk_pX11_leaks (56, .if_icmp .eq 8, 3) (List.mem_of_getElem? (i := 30) rfl))) (fun _ => a_cmF hv) ?_
  refine ZW_sm (pc' := 60) (ls' := [some (.ref 0), some (.int a1), some (.int a2), some (.int v)]) (st' := [.int a2]) (s_iload_n rfl (dk_pX11_leaks (59, .iload_n 2, 1) (List.mem_of_getElem? (i := 31) rfl))) (fun _ => rfl) ?_
  refine ZW_sm (pc' := 61) (ls' := [some (.ref 0), some (.int a1), some (.int a2), some (.int v)]) (st' := [.int 1, .int a2]) (s_iconst (v := 1) (by decide) (dk_pX11_leaks (60, .iconst 1, 1) (List.mem_of_getElem? (i := 32) rfl))) (fun _ => rfl) ?_
  refine ZW_sm (pc' := 68) (ls' := [some (.ref 0), some (.int a1), some (.int a2), some (.int v)]) (st' := []) (s_cmne (pc := 61) (t := 68) (by decide) (dk_pX11_leaks (61, .if_icmp .ne 7, 3) (List.mem_of_getElem? (i := 33) rfl))) (fun _ => a_cmF hq) ?_
  refine ZW_sm (pc' := 69) (ls' := [some (.ref 0), some (.int a1), some (.int a2), some (.int v)]) (st' := [.int v]) (s_iload_n rfl (dk_pX11_leaks (68, .iload_n 3, 1) (List.mem_of_getElem? (i := 36) rfl))) (fun _ => rfl) ?_
  refine Z_callS (M := zem g' M2) (as := [.int v]) (st := []) (mt_J6_bitCount_0f7a4 _ _ _ _ hb) rfl mv_J6_bitCount_0f7a4 lc_RX11_280 rfl ⟨by decide, by decide⟩ rfl ⟨by decide, by decide⟩ (dk_pX11_leaks (69, .invokestatic 280, 3) (List.mem_of_getElem? (i := 37) rfl)) ?_
  show ZW _ _ _ _ _ _ _ _ _ _ _ 72 [some (.ref 0), some (.int a1), some (.int a2), some (.int v)] [.int w] _ _ _
  exact ZW_wide (k := 3) (n := 7230) (by decide) (by decide) (ZW_rt (s_iret rfl rfl rfl (dk_pX11_leaks (72, .ireturn, 1) (List.mem_of_getElem? (i := 38) rfl))) (fun _ => rfl))
