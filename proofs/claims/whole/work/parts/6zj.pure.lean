/-! PURE ROWS: a test, on both sides -/
theorem tes_al (g : zg) {f : Nat → Int32} {L m : Nat} (n : Nat) : ∀ (q op c s b : Nat) (p : List Nat) (M N : zM), (∀ x r, p = x :: r → ¬ x = 9) → TKS 0 f L c m M.1 N.1 → LG s M.1 N.1 → PS (List.replicate q 9 ++ p) op N.1 → q ≤ op → b ≤ op → op ≤ 8 → 9 ≤ n + op → p.length + q ≤ 3 * op + 2 → s + (p.length + q) ≤ c → TesR g f L m n q op c s b p M N := by
  induction n with
  | zero =>
    intro q op c s b p M N _ _ _ _ _ _ h1 h2
    omega
  | succ n ih =>
    intro q op c s b p M N hp h hl hps hq hb hop hn hpl hs
    have hm : m ≤ 400 := h.2.1.1
    have hcm : c ≤ m := h.2.1.2.1
    have plen : (List.replicate q 9 ++ p).length = p.length + q := by
      rw [List.length_append, List.length_replicate]
      omega
    have w6 := isWordM_s g (j := 0) (by omega) h (i := 15) (by decide) (a := 6) (by decide)
    rw [show (128 + nI 15 : Int32) = 143 from by decide] at w6
    have i40 := isSignM_s g (j := 0) (by omega) h (s := 40) (by decide)
    have cl := x_X4_readTest_0 g (nI op) n M
    rw [tokenC_s g h, zbI_s] at cl
    have rf := e_X12_readAny_9 g (nI b) 1 N
    rw [show cEq0 (1 : Int32) = false from rfl, bif_f, w6, zbI_s, cEq0_b01, i40, zbI_s, cEq0_b01] at rf
    have h28 : N.1 72 28 = nI op := hps.2.2.1
    by_cases e143 : M.1 3 c = 143
    · -- not
      rw [cEq_s e143, bif_t, e_X4_readTest_18] at cl
      rw [cEq_s e143, Bool.not_true, bif_f, e_X12_readAny_33, h28] at rf
      by_cases e8 : op = 8
      · rw [show cLt (nI op) 8 = false from clF (c := 8) (n := 8) rfl (by omega) (by omega), bif_f, refuC_s g (j := 0) (by omega) h, zbI_s] at cl
        rw [show cEq (nI op) 8 = true from by rw [e8]; rfl, bif_t, errsM_s g (j := 0) (by omega) h, zbI_s] at rf
        obtain ⟨f1, f2, f3⟩ := fl_al (I := M.1) (J := N.1) 3 (nI (plS f L 0 c))
        exact ⟨false, _, cl, GFc_p f1, fun _ => ⟨_, rf, EFm_g (GFm_p f2), f3⟩, fun c => absurd c (by decide)⟩
      · obtain ⟨s1, s2⟩ := stepC_s g (j := 0) (by omega) h (by rw [e143]; decide)
        rw [show cLt (nI op) 8 = true from clT (c := 8) (n := 8) rfl (by omega) (by omega), bif_t, s2, zbV_s, e143, show cEq (143 : Int32) 40 = false from rfl, bif_f, nI_s1] at cl
        rw [show cEq (nI op) 8 = false from by rw [show (8 : Int32) = nI 8 from rfl, cEq_nI (by omega) (by omega), decide_eq_false e8], bif_f, show cEq0 (b01 true) = false from rfl, bif_f, bif_f, nI_s1] at rf
        have ps1 : PS (List.replicate q 9 ++ p) (op + 1) (zu N.1 72 28 (nI (op + 1))) := ⟨hps.1, by rw [zu_ne2 (by omega)]; exact hps.2.1, zu_eq, hps.2.2.2.1, by rw [zu_ne (by omega)]; exact hps.2.2.2.2⟩
        obtain ⟨v1, v2⟩ := waitsM_s g (N := ((zu N.1 72 28 (nI (op + 1))), N.2)) (w := 9) ps1 (by omega) (by omega)
        dsimp only at v1 v2
        have f13 : EFm s N.1 (zu (zu (zu N.1 72 28 (nI (op + 1))) 88 (List.replicate q 9 ++ p).length (nI 9)) 72 30 (nI ((List.replicate q 9 ++ p).length + 1))) := EFm_t (EFm_u (by omega)) (EFm_t EFm_w (EFm_u (by omega)) (Nat.le_refl _)) (Nat.le_refl _)
        have tk3 : TKS 0 f L c m M.1 (zu (zu (zu N.1 72 28 (nI (op + 1))) 88 (List.replicate q 9 ++ p).length (nI 9)) 72 30 (nI ((List.replicate q 9 ++ p).length + 1))) := TKS_E h (fun k _ _ => by rw [zu_ne2 (by omega), zu_ne1 (by omega), zu_ne2 (by omega)]) (by rw [zu_ne (by omega), zu_ne (by omega), zu_ne (by omega)]) (by rw [zu_ne (by omega), zu_ne (by omega), zu_ne (by omega)])
        obtain ⟨J4, r1, r2, r3⟩ := readsM_s g (N := ((zu (zu (zu N.1 72 28 (nI (op + 1))) 88 (List.replicate q 9 ++ p).length (nI 9)) 72 30 (nI ((List.replicate q 9 ++ p).length + 1))), N.2)) tk3 s1
        dsimp only at r1 r2
        have f4 : EFm s N.1 J4 := EFm_t f13 (EFm_g (GFm_p (PFm_d r2))) (Nat.le_refl _)
        have lg4 : LG s (zu M.1 1 4 (nI (c + 1))) J4 := by
          refine LGq_x hl (zu_ne1 (by omega)) (fun j _ => zu_ne1 (by omega)) ?_ (fun j _ => f4.2.2 (800 + j) (by omega))
          rw [r2.2 27 (by omega) (by omega) (by omega) (by omega), zu_ne2 (by omega), zu_ne1 (by omega), zu_ne2 (by omega)]
        have ps4 : PS (List.replicate (q + 1) 9 ++ p) (op + 1) J4 := PS_x v2 (r2.2 30 (by omega) (by omega) (by omega) (by omega)) (r2.2 28 (by omega) (by omega) (by omega) (by omega)) (r2.1 88 (by omega))
        obtain ⟨ok, I1, x1, x2, x3, x4⟩ := ih (q + 1) (op + 1) (c + 1) s b p ((zu M.1 1 4 (nI (c + 1))), M.2) (J4, N.2) hp r3 lg4 ps4 (by omega) (by omega) (by omega) (by omega) (by omega) (by omega)
        dsimp only at x1 x2 x3 x4
        rw [x1, zbI_s, cEq0_b01] at cl
        rw [show X_X12_waits g [.ref 72, .int 9] ((zu N.1 72 28 (nI (op + 1))), N.2) = _ from v1, zbV_s, r1, zbV_s] at rf
        have fc1 : GFc s M.1 I1 := GFc_t (GFc_p (PFc_u (by omega))) x2 (Nat.le_refl _)
        cases ok
        · refine ⟨false, I1, cl, fc1, fun _ => ?_, fun c => absurd c (by decide)⟩
          obtain ⟨J', u1, u2, u3⟩ := x3 rfl
          exact ⟨J', rf.trans u1, EFm_t f4 u2 (Nat.le_refl _), u3⟩
        · obtain ⟨J', c', s', u1, u2, u3, u4, u5, u6, u7, u8, u9⟩ := x4 rfl
          obtain ⟨l1, l2, l3⟩ := LGq_em (w := 9) (q := q) u4 (by omega)
          have s400 : s' < 400 := by have := u4.1; omega
          rw [Bool.not_true, bif_f, show (-143 : Int32) = cdOf 9 0 from rfl, emitC_s g (M := (I1, M.2)) u4.2.1 s400, zbV_s] at cl
          refine ⟨true, _, cl, GFc_t fc1 (GFc_e u6) (Nat.le_refl _), fun c => absurd c (by decide), fun _ => ⟨J', c', s' + 1, rf.trans u1, EFm_t f4 u2 (Nat.le_refl _), TKS_eC u3, l1, by rw [show op - q = op + 1 - (q + 1) from by omega]; exact u5, by omega, by omega, by omega, fun st hst => ?_⟩⟩
          refine TY_t (u9 st (by omega)) (TY_1 ?_)
          rw [l2, l3]
          exact Or.inr (Or.inr (Or.inl ⟨rfl, st, rfl, rfl⟩))
    · rw [cEq_n e143, bif_f] at cl
      rw [cEq_n e143, Bool.not_false, bif_t] at rf
      by_cases e40 : M.1 3 c = 40
      · -- bracket
        rw [cEq_s e40, bif_t, e_X4_readTest_18] at cl
        rw [cEq_s e40, Bool.not_true, bif_f, e_X12_readAny_33, h28] at rf
        by_cases e8 : op = 8
        · rw [show cLt (nI op) 8 = false from clF (c := 8) (n := 8) rfl (by omega) (by omega), bif_f, refuC_s g (j := 0) (by omega) h, zbI_s] at cl
          rw [show cEq (nI op) 8 = true from by rw [e8]; rfl, bif_t, errsM_s g (j := 0) (by omega) h, zbI_s] at rf
          obtain ⟨f1, f2, f3⟩ := fl_al (I := M.1) (J := N.1) 3 (nI (plS f L 0 c))
          exact ⟨false, _, cl, GFc_p f1, fun _ => ⟨_, rf, EFm_g (GFm_p f2), f3⟩, fun c => absurd c (by decide)⟩
        · obtain ⟨s1, s2⟩ := stepC_s g (j := 0) (by omega) h (by rw [e40]; decide)
          rw [show cLt (nI op) 8 = true from clT (c := 8) (n := 8) rfl (by omega) (by omega), bif_t, s2, zbV_s, e40, show cEq (40 : Int32) 40 = true from rfl, bif_t, nI_s1, x_X4_readEither_0] at cl
          rw [show cEq (nI op) 8 = false from by rw [show (8 : Int32) = nI 8 from rfl, cEq_nI (by omega) (by omega), decide_eq_false e8], bif_f, show cEq0 (b01 false) = true from rfl, bif_t, bif_t, nI_s1, nI_s1] at rf
          have ps1 : PS (List.replicate q 9 ++ p) (op + 1) (zu N.1 72 28 (nI (op + 1))) := ⟨hps.1, by rw [zu_ne2 (by omega)]; exact hps.2.1, zu_eq, hps.2.2.2.1, by rw [zu_ne (by omega)]; exact hps.2.2.2.2⟩
          obtain ⟨v1, v2⟩ := waitsM_s g (N := ((zu N.1 72 28 (nI (op + 1))), N.2)) (w := 12) ps1 (by omega) (by omega)
          dsimp only at v1 v2
          have f13 : EFm s N.1 (zu (zu (zu N.1 72 28 (nI (op + 1))) 88 (List.replicate q 9 ++ p).length (nI 12)) 72 30 (nI ((List.replicate q 9 ++ p).length + 1))) := EFm_t (EFm_u (by omega)) (EFm_t EFm_w (EFm_u (by omega)) (Nat.le_refl _)) (Nat.le_refl _)
          have tk3 : TKS 0 f L c m M.1 (zu (zu (zu N.1 72 28 (nI (op + 1))) 88 (List.replicate q 9 ++ p).length (nI 12)) 72 30 (nI ((List.replicate q 9 ++ p).length + 1))) := TKS_E h (fun k _ _ => by rw [zu_ne2 (by omega), zu_ne1 (by omega), zu_ne2 (by omega)]) (by rw [zu_ne (by omega), zu_ne (by omega), zu_ne (by omega)]) (by rw [zu_ne (by omega), zu_ne (by omega), zu_ne (by omega)])
          obtain ⟨J4, r1, r2, r3⟩ := readsM_s g (N := ((zu (zu (zu N.1 72 28 (nI (op + 1))) 88 (List.replicate q 9 ++ p).length (nI 12)) 72 30 (nI ((List.replicate q 9 ++ p).length + 1))), N.2)) tk3 s1
          dsimp only at r1 r2
          have f4 : EFm s N.1 J4 := EFm_t f13 (EFm_g (GFm_p (PFm_d r2))) (Nat.le_refl _)
          have lg4 : LG s (zu M.1 1 4 (nI (c + 1))) J4 := by
            refine LGq_x hl (zu_ne1 (by omega)) (fun j _ => zu_ne1 (by omega)) ?_ (fun j _ => f4.2.2 (800 + j) (by omega))
            rw [r2.2 27 (by omega) (by omega) (by omega) (by omega), zu_ne2 (by omega), zu_ne1 (by omega), zu_ne2 (by omega)]
          have ps4 : PS (flg false 10 ++ (flg false 11 ++ (12 :: (List.replicate q 9 ++ p)))) (op + 1) J4 := PS_x v2 (r2.2 30 (by omega) (by omega) (by omega) (by omega)) (r2.2 28 (by omega) (by omega) (by omega) (by omega)) (r2.1 88 (by omega))
          have pl12 : (12 :: (List.replicate q 9 ++ p)).length = p.length + q + 1 := by rw [List.length_cons, plen]
          have tf : false.toNat = 0 := rfl
          obtain ⟨ok, I1, x1, x2, x3, x4⟩ := eit_al g ih m (op + 1) (c + 1) s (b + 1) 0 false false (12 :: (List.replicate q 9 ++ p)) ((zu M.1 1 4 (nI (c + 1))), M.2) (J4, N.2) (Or.inr ⟨_, rfl⟩) r3 lg4 ps4 (by omega) (by omega) (by omega) (by omega) (by omega) (by omega) (by omega)
          dsimp only at x1 x2 x3 x4
          rw [show zX (t_X4_readEither g (X_T g n)) 8 [some (.ref 56), some (.ref 1), some (.int (nI (op + 1))), some (.int 0), some (.int 0), some (.int 0)] [] ((zu M.1 1 4 (nI (c + 1))), M.2) = _ from x1, zbI_s, cEq0_b01] at cl
          rw [show X_X12_waits g [.ref 72, .int 12] ((zu N.1 72 28 (nI (op + 1))), N.2) = _ from v1, zbV_s, r1, zbV_s] at rf
          have fc1 : GFc s M.1 I1 := GFc_t (GFc_p (PFc_u (by omega))) x2 (Nat.le_refl _)
          cases ok
          · refine ⟨false, I1, cl, fc1, fun _ => ?_, fun c => absurd c (by decide)⟩
            obtain ⟨J', u1, u2, u3⟩ := x3 rfl
            exact ⟨J', rf.trans u1, EFm_t f4 u2 (Nat.le_refl _), u3⟩
          · obtain ⟨J1, c1, s1', u1, u2, u3, u4, u5, u6, u7, u8, u9⟩ := x4 rfl
            have hc1 : c1 ≤ m := u3.2.1.2.1
            have fm1 : EFm s N.1 J1 := EFm_t f4 u2 (Nat.le_refl _)
            have i41 := isSignM_s g (j := 0) (by omega) (N := (J1, N.2)) u3 (s := 41) (by decide)
            have rf1 := rf.trans u1
            unfold finM at rf1
            rw [show cEq0 (nI (b + 1)) = false from by rw [cEq0_nI (by omega), decide_eq_false (by omega)], bif_f, i41, zbI_s, cEq0_b01] at rf1
            rw [Bool.not_true, bif_f] at cl
            by_cases e41 : I1 3 c1 = 41
            · obtain ⟨k1, k2⟩ := expC_t g (j := 0) (M := (I1, M.2)) (by omega) u3 (t := 41) (by decide) e41
              rw [k2, zbI_s, show cEq0 (1 : Int32) = false from rfl, bif_f] at cl
              rw [cEq_s e41, Bool.not_true, bif_f] at rf1
              dsimp only at rf1
              rw [u5.2.1, u5.2.2.1, pl12, nI_q1, nI_q1, nI_q1] at rf1
              have ps2 : PS (List.replicate q 9 ++ p) op (zu (zu J1 72 30 (nI (p.length + q))) 72 28 (nI op)) := ⟨by rw [plen]; omega, by rw [zu_ne2 (by omega), zu_eq, plen], zu_eq, fun x hx => u5.2.2.2.1 x (List.mem_cons_of_mem _ hx), by rw [zu_ne (by omega), zu_ne (by omega)]; exact u5.2.2.2.2.2⟩
              have lg2 : LGq 9 0 s1' I1 (zu (zu J1 72 30 (nI (p.length + q))) 72 28 (nI op)) := LGq_x (LG_w.2 u4) rfl (fun _ _ => rfl) (by rw [zu_ne2 (by omega), zu_ne2 (by omega)]) (fun j _ => ⟨by rw [zu_ne1 (by omega), zu_ne1 (by omega)], by rw [zu_ne1 (by omega), zu_ne1 (by omega)]⟩)
              obtain ⟨J3, z1, z2, z3, z4, z5⟩ := set_al g (w := 9) (s := s1') (p := p) (I := I1) (by omega) hp q 0 (op - q) op ((zu (zu J1 72 30 (nI (p.length + q))) 72 28 (nI op)), N.2) (by rw [if_pos rfl]; omega) ps2 lg2 (by omega)
              rw [Nat.zero_add] at z3
              dsimp only at z4 z5
              have tk5 : TKS 0 f L c1 m I1 J3 := TKS_E u3 (fun k _ _ => by rw [z5 k (by omega) (by omega) (by omega), zu_ne2 (by omega), zu_ne2 (by omega)]) (by rw [z4.1 79 (by omega) (by omega) (by omega) (by omega), zu_ne (by omega), zu_ne (by omega)]) (by rw [z4.1 80 (by omega) (by omega) (by omega) (by omega), zu_ne (by omega), zu_ne (by omega)])
              obtain ⟨J5, t1, t2, t3⟩ := readsM_s g (N := (J3, N.2)) tk5 k1
              dsimp only at t1 t2
              rw [show X_X12_settles g [.ref 72, .int 9] ((zu (zu J1 72 30 (nI (p.length + q))) 72 28 (nI op)), N.2) = _ from z1, zbV_s, t1, zbV_s] at rf1
              have f15 : EFm s1' J1 J5 := EFm_t (s' := s1') (EFm_u (by omega)) (EFm_t (s' := s1' + 0) (EFm_u (by omega)) (EFm_t (s' := s1' + 0) z4 (EFm_g (GFm_p (PFm_d t2))) (Nat.le_refl _)) (Nat.le_refl _)) (Nat.le_refl _)
              refine ⟨true, _, cl, GFc_t fc1 (GFc_p (PFc_u (by omega))) (Nat.le_refl _), fun c => absurd c (by decide), fun _ => ⟨J5, c1 + 1, s1', rf1, EFm_t fm1 f15 u6, t3, LGq_x z3 (zu_ne1 (by omega)) (fun j _ => zu_ne1 (by omega)) (t2.2 27 (by omega) (by omega) (by omega) (by omega)) (fun j _ => ⟨by rw [t2.1 86 (by omega)], by rw [t2.1 87 (by omega)]⟩), PS_x z2 (t2.2 30 (by omega) (by omega) (by omega) (by omega)) (t2.2 28 (by omega) (by omega) (by omega) (by omega)) (t2.1 88 (by omega)), by omega, by omega, by omega, fun st hst => ?_⟩⟩
              exact TY_x (u9 st (by omega)) (fun j hj => f15.2.2 (800 + j) (by omega))
            · rw [expC_f g (j := 0) (M := (I1, M.2)) (by omega) u3 (t := 41) e41, zbI_s] at cl
              rw [cEq_n e41, Bool.not_false, bif_t, errsM_s g (N := (J1, N.2)) (j := 0) (by omega) u3, zbI_s] at rf1
              obtain ⟨f1, f2, f3⟩ := fl_al (I := I1) (J := J1) 1 (nI (plS f L 0 c1))
              exact ⟨false, _, cl, GFc_t fc1 (GFc_p f1) (Nat.le_refl _), fun _ => ⟨_, rf1, EFm_t fm1 (EFm_g (GFm_p f2)) (Nat.le_refl _), f3⟩, fun c => absurd c (by decide)⟩
      · -- compared
        rw [cEq_n e40, bif_f] at cl
        rw [cEq_n e40, Bool.not_false, bif_t] at rf
        obtain ⟨ok, I1, J1, x1, x2, x3, x4, x5, x6⟩ := comp_al g h hl (by omega)
        have cl1 : X_T g (n + 1) [.ref 56, .ref 1, .int (nI op)] M = some (some (.int (b01 ok)), (I1, M.2)) := cl.trans x1
        rw [x2, zbI_s] at rf
        cases ok
        · exact ⟨false, I1, cl1, x3, fun _ => ⟨J1, rf, EFm_g x4, x5 rfl⟩, fun c => absurd c (by decide)⟩
        · obtain ⟨c1, s1, u1, u2, u3, u4, u5, u6⟩ := x6 rfl
          have hc1 : c1 ≤ m := u1.2.1.2.1
          rw [bif_t, show cEq (0 : Int32) (-1) = false from rfl, bif_f] at rf
          obtain ⟨J3, z1, z2, z3, z4, z5⟩ := set_al g (w := 9) (s := s1) (p := p) (I := I1) (by omega) hp q 0 (op - q) op (J1, N.2) (by rw [if_pos rfl]; omega) (PS_g hps x4) (LG_w.2 u2) (by omega)
          rw [Nat.zero_add] at z3
          dsimp only at z4 z5
          rw [show X_X12_settles g [.ref 72, .int 9] (J1, N.2) = _ from z1, zbV_s] at rf
          refine ⟨true, I1, cl1, x3, fun c => absurd c (by decide), fun _ => ⟨J3, c1, s1, rf, EFm_t (EFm_g x4) z4 (by omega), TKS_E u1 (fun k _ _ => z5 k (by omega) (by omega) (by omega)) (z4.1 79 (by omega) (by omega) (by omega) (by omega)) (z4.1 80 (by omega) (by omega) (by omega) (by omega)), z3, z2, u3, u4, u5, fun st hst => ?_⟩⟩
          exact TY_x (u6 st (by omega)) (fun j hj => z4.2.2 (800 + j) (by omega))
