/-! the law's loop and its beginning -/
theorem lw_gt {L i : Nat} (hL : L ≤ 3072) (hi : i ≤ 3072) : (nI L - 6 < nI i) ↔ L < i + 6 := by
  have e1 : (nI L).toInt = (L : Int) := Int32.toInt_ofNat_of_lt (by omega)
  have e2 : (nI i).toInt = (i : Int) := Int32.toInt_ofNat_of_lt (by omega)
  have e3 : (nI L - 6).toInt = (L : Int) - 6 := by
    rw [Int32.toInt_sub, e1, show Int32.toInt 6 = 6 from by decide]
    exact Int.bmod_eq_of_le (by omega) (by omega)
  rw [Int32.lt_iff_toInt_lt, e2, e3]
  omega
def lwS : List (Int32 × Nat) := [(0, 188), (1, 211), (2, 244), (3, 287), (4, 330), (5, 353), (6, 416), (7, 439), (8, 462), (9, 485), (10, 518), (11, 541), (12, 574), (13, 607), (14, 630), (15, 663), (16, 676), (17, 699), (18, 712), (19, 735), (20, 758), (21, 791), (22, 844), (23, 877), (24, 910), (25, 933), (26, 956), (27, 989), (28, 1012), (29, 1025), (30, 1058), (31, 1081), (32, 1104), (33, 1117), (34, 1156)]
theorem zgo_all {P : Nat → Prop} {x : Int32} {df : Nat} (hd : P df) : ∀ cs : List (Int32 × Nat), (∀ q ∈ cs, P q.2) → P (zgo x df cs) := by
  intro cs
  induction cs with
  | nil => intro _; exact hd
  | cons q r ih =>
    intro h
    show P (bif cEq x q.1 then q.2 else zgo x df r)
    cases cEq x q.1 with
    | true => exact h q List.mem_cons_self
    | false => exact ih (fun y hy => h y (List.mem_cons_of_mem _ hy))
theorem lw_swok : zswOk 33 1146 0 34 #[155, 178, 211, 254, 297, 320, 383, 406, 429, 452, 485, 508, 541, 574, 597, 630, 643, 666, 679, 702, 725, 758, 811, 844, 877, 900, 923, 956, 979, 992, 1025, 1048, 1071, 1084, 1123] 1179 lwS := zsw_ok (by decide) (by decide)
section LOOP
variable {p : Program} {l : Launch} {e : Env} {s : State} {m : MethodId} {below : List Frame} {meth : Method} {c : Code} {D : va_G} {cs : Nat → ClassId} {A : Nat → Prop} {ψ φ0 : Nat → Nat} {b L : Nat} {xs : Nat → Int32} {cells slots : Nat}
theorem lw_fin (C : lwC p s m meth c D cs A ψ φ0 b L xs) (hL3 : L ≤ 3072) {g : zg} {M : zM} {i : Nat} (hi3 : i ≤ 3072) (hi : L < i + 6) (hc : cells ≤ room_1.cells ∧ slots ≤ room_1.slots) : LJ p l e s m below meth c D cs A ψ φ0 b cells slots 18 (LA i) [] (zem g M) := by
  refine J_iload (pc := 18) C (i := 3) (x := nI i) rfl rfl (dk_L_0 (18, .iload_n 3, 1) (List.mem_of_getElem? (i := 10) rfl)) ?_
  refine J_aload (pc := 19) C (i := 0) (x := 150) rfl rfl (dk_L_0 (19, .aload_n 0, 1) (List.mem_of_getElem? (i := 11) rfl)) ?_
  refine J_len (pc := 20) C n150 (dk_L_0 (20, .arraylength, 1) (List.mem_of_getElem? (i := 12) rfl)) ?_
  refine J_bipush (pc := 21) C (v := 6) (by decide) (dk_L_0 (21, .bipush 6, 2) (List.mem_of_getElem? (i := 13) rfl)) ?_
  refine J_isub (pc := 23) C (dk_L_0 (23, .isub, 1) (List.mem_of_getElem? (i := 14) rfl)) ?_
  refine J_cmgt (pc := 24) C (t := 1185) (by decide) (dk_L_0 (24, .if_icmp .gt 1161, 3) (List.mem_of_getElem? (i := 15) rfl)) (fun _ => ?_) (fun hn => absurd ((lw_gt hL3 hi3).mpr hi) hn)
  refine J_iconst (pc := 1185) C (v := 1) (by decide) (dk_L_31 (1185, .iconst 1, 1) (List.mem_of_getElem? (i := 22) rfl)) ?_
  exact J_ret (pc := 1186) C hc.1 hc.2 (dk_L_31 (1186, .ireturn, 1) (List.mem_of_getElem? (i := 23) rfl))
theorem lw_body (C : lwC p s m meth c D cs A ψ φ0 b L xs) (hL3 : L ≤ 3072) {g : zg} {M : zM} (h : Inv g M.1) {i : Nat} (hi : i + 6 ≤ L) (hc : cells + 34 ≤ room_1.cells ∧ slots + 7230 ≤ room_1.slots) (next : ∀ g' M', Inv g' (Prod.fst M') → LJ p l e s m below meth c D cs A ψ φ0 b (cells + 34) (slots + 7230) 18 (LA (i + 6)) [] (zem g' M')) : LJ p l e s m below meth c D cs A ψ φ0 b cells slots 18 (LA i) [] (zem g M) := by
  refine J_iload (pc := 18) C (i := 3) (x := nI i) rfl rfl (dk_L_0 (18, .iload_n 3, 1) (List.mem_of_getElem? (i := 10) rfl)) ?_
  refine J_aload (pc := 19) C (i := 0) (x := 150) rfl rfl (dk_L_0 (19, .aload_n 0, 1) (List.mem_of_getElem? (i := 11) rfl)) ?_
  refine J_len (pc := 20) C n150 (dk_L_0 (20, .arraylength, 1) (List.mem_of_getElem? (i := 12) rfl)) ?_
  refine J_bipush (pc := 21) C (v := 6) (by decide) (dk_L_0 (21, .bipush 6, 2) (List.mem_of_getElem? (i := 13) rfl)) ?_
  refine J_isub (pc := 23) C (dk_L_0 (23, .isub, 1) (List.mem_of_getElem? (i := 14) rfl)) ?_
  refine J_cmgt (pc := 24) C (t := 1185) (by decide) (dk_L_0 (24, .if_icmp .gt 1161, 3) (List.mem_of_getElem? (i := 15) rfl)) (fun hn => absurd ((lw_gt hL3 (by omega)).mp hn) (by omega)) (fun _ => ?_)
  refine J_aload (pc := 27) C (i := 0) (x := 150) rfl rfl (dk_L_0 (27, .aload_n 0, 1) (List.mem_of_getElem? (i := 16) rfl)) ?_
  refine J_iload (pc := 28) C (i := 3) (x := nI i) rfl rfl (dk_L_0 (28, .iload_n 3, 1) (List.mem_of_getElem? (i := 17) rfl)) ?_
  refine J_sld (pc := 29) C n150 (by omega) hL3 (dk_L_0 (29, .iaload, 1) (List.mem_of_getElem? (i := 18) rfl)) ?_
  refine J_bipush (pc := 30) C (v := 63) (by decide) (dk_L_0 (30, .bipush 63, 2) (List.mem_of_getElem? (i := 19) rfl)) ?_
  refine J_iand (pc := 32) C (dk_L_0 (32, .iand, 1) (List.mem_of_getElem? (i := 20) rfl)) ?_
  refine J_tsw (pc := 33) C lw_swok (dk_L_0 (33, .tableswitch 1146 0 34 #[155, 178, 211, 254, 297, 320, 383, 406, 429, 452, 485, 508, 541, 574, 597, 630, 643, 666, 679, 702, 725, 758, 811, 844, 877, 900, 923, 956, 979, 992, 1025, 1048, 1071, 1084, 1123], 155) (List.mem_of_getElem? (i := 21) rfl)) ?_
  have nx : ∀ g' M', Inv g' (Prod.fst M') → LJ p l e s m below meth c D cs A ψ φ0 b (cells + 34) (slots + 7230) 1179 (LA i) [] (zem g' M') := by
    intro g' M' h'
    refine J_iinc (pc := 1179) C (i := 3) (x := nI i) (k := 6) (by decide) (by omega) rfl rfl (dk_L_31 (1179, .iinc 3 6, 3) (List.mem_of_getElem? (i := 20) rfl)) ?_
    refine J_goto (pc := 1182) C (t := 18) (by decide) (dk_L_31 (1182, .goto (-1164), 3) (List.mem_of_getElem? (i := 21) rfl)) ?_
    have q := next g' M' h'
    unfold LA at q
    rw [← nI_add] at q
    exact q
  exact zgo_all (P := fun t => LJ p l e s m below meth c D cs A ψ φ0 b cells slots t (LA i) [] (zem g M)) (J_wide (by omega) (by omega) (nx g M h)) lwS (List.forall_mem_cons.mpr ⟨lw_state C hL3 h hi hc nx, List.forall_mem_cons.mpr ⟨lw_teller C hL3 h hi hc nx, List.forall_mem_cons.mpr ⟨lw_set C hL3 h hi hc nx, List.forall_mem_cons.mpr ⟨lw_act C hL3 h hi hc nx, List.forall_mem_cons.mpr ⟨lw_days C hL3 h hi hc nx, List.forall_mem_cons.mpr ⟨lw_feed C hL3 h hi hc nx, List.forall_mem_cons.mpr ⟨lw_end C hL3 h hi hc nx, List.forall_mem_cons.mpr ⟨lw_text C hL3 h hi hc nx, List.forall_mem_cons.mpr ⟨lw_fault C hL3 h hi hc nx, List.forall_mem_cons.mpr ⟨lw_of C hL3 h hi hc nx, List.forall_mem_cons.mpr ⟨lw_moves C hL3 h hi hc nx, List.forall_mem_cons.mpr ⟨lw_book C hL3 h hi hc nx, List.forall_mem_cons.mpr ⟨lw_goes C hL3 h hi hc nx, List.forall_mem_cons.mpr ⟨lw_ahead C hL3 h hi hc nx, List.forall_mem_cons.mpr ⟨lw_right C hL3 h hi hc nx, List.forall_mem_cons.mpr ⟨lw_surest C hL3 h hi hc nx, List.forall_mem_cons.mpr ⟨lw_likely C hL3 h hi hc nx, List.forall_mem_cons.mpr ⟨lw_glued C hL3 h hi hc nx, List.forall_mem_cons.mpr ⟨lw_seen C hL3 h hi hc nx, List.forall_mem_cons.mpr ⟨lw_round C hL3 h hi hc nx, List.forall_mem_cons.mpr ⟨lw_safe C hL3 h hi hc nx, List.forall_mem_cons.mpr ⟨lw_works C hL3 h hi hc nx, List.forall_mem_cons.mpr ⟨lw_umbrella C hL3 h hi hc nx, List.forall_mem_cons.mpr ⟨lw_leaks C hL3 h hi hc nx, List.forall_mem_cons.mpr ⟨lw_wins C hL3 h hi hc nx, List.forall_mem_cons.mpr ⟨lw_weighs C hL3 h hi hc nx, List.forall_mem_cons.mpr ⟨lw_post C hL3 h hi hc nx, List.forall_mem_cons.mpr ⟨lw_serves C hL3 h hi hc nx, List.forall_mem_cons.mpr ⟨lw_hats C hL3 h hi hc nx, List.forall_mem_cons.mpr ⟨lw_mix C hL3 h hi hc nx, List.forall_mem_cons.mpr ⟨lw_mixes C hL3 h hi hc nx, List.forall_mem_cons.mpr ⟨lw_game C hL3 h hi hc nx, List.forall_mem_cons.mpr ⟨lw_undo C hL3 h hi hc nx, List.forall_mem_cons.mpr ⟨lw_image C hL3 h hi hc nx, List.forall_mem_cons.mpr ⟨lw_look C hL3 h hi hc nx, fun _ h => absurd h List.not_mem_nil⟩⟩⟩⟩⟩⟩⟩⟩⟩⟩⟩⟩⟩⟩⟩⟩⟩⟩⟩⟩⟩⟩⟩⟩⟩⟩⟩⟩⟩⟩⟩⟩⟩⟩⟩)
end LOOP
theorem lw_loop {p : Program} {l : Launch} {e : Env} {s : State} {m : MethodId} {below : List Frame} {meth : Method} {c : Code} {D : va_G} {cs : Nat → ClassId} {A : Nat → Prop} {ψ φ0 : Nat → Nat} {b L : Nat} {xs : Nat → Int32} (C : lwC p s m meth c D cs A ψ φ0 b L xs) (hL3 : L ≤ 3072) : ∀ (n : Nat) (g : zg) (M : zM) (i cells slots : Nat), Inv g M.1 → i ≤ 3072 → L < i + 6 + 6 * n → cells + 34 * n ≤ room_1.cells ∧ slots + 7230 * n ≤ room_1.slots → LJ p l e s m below meth c D cs A ψ φ0 b cells slots 18 (LA i) [] (zem g M) := by
  intro n
  induction n with
  | zero =>
    intro g M i cells slots _ hi hn hc
    exact lw_fin C hL3 hi (by omega) ⟨by omega, by omega⟩
  | succ n ih =>
    intro g M i cells slots h hi hn hc
    by_cases hq : L < i + 6
    · exact lw_fin C hL3 hi hq ⟨by omega, by omega⟩
    · exact lw_body C hL3 h (by omega) ⟨by omega, by omega⟩ (fun g' M' h' => ih g' M' (i + 6) _ _ h' (by omega) (by omega) ⟨by omega, by omega⟩)
