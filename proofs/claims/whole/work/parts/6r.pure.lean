/-! PURE ROWS: a line of the agenda; all of them -/
theorem expC_u (g : zg) {j : Nat} {f : Nat → Int32} {L c m : Nat} {M : zM} {J I0 : zI} (hj : j < 3) (h : TKS j f L c m M.1 J) {t : Int32} (ht : ¬ t = 0) (e : M.1 3 c = t) (p : X_X9_expect g [.ref 1, .int t] M = some (some (.int 1), (I0, M.2))) : I0 = zu M.1 1 4 (nI (c + 1)) := by
  have q := p.symm.trans (expC_t g hj h ht e).2
  simp only [Option.some.injEq, Prod.mk.injEq, and_true, true_and] at q
  exact q
theorem agl_al (g : zg) {f : Nat → Int32} {L c m n t : Nat} {dy wt wm mu : Nat → Nat} {M N : zM} (h : TKS 2 f L c m M.1 N.1) (hs : AS n t dy wt wm mu M.1 N.1) (ht : t ≤ 10) (h6 : N.1 72 6 = nI t) (hT : ¬ M.1 3 c = 0) : ∃ ok I' J', X_X0_readLine g [.ref 67, .ref 1, .int (nI t)] M = some (some (.int (b01 ok)), (I', M.2)) ∧ zX (t_X12_readAgenda g) 2 [some (.ref 72), some (.int (nI n))] [] N = (bif ok then zX (t_X12_readAgenda g) 2 [some (.ref 72), some (.int (nI (n + 1)))] [] (J', N.2) else some (some (.int (-1)), (J', N.2))) ∧ AFc M.1 I' ∧ AFm N.1 J' ∧ (ok = false → FL I' J') ∧ (ok = true → n < 16 ∧ ∃ c' dy' wt' wm' mu', TKS 2 f L c' m I' J' ∧ AS (n + 1) t dy' wt' wm' mu' I' J') := by
  have iw := isWordM_s g (j := 2) (by omega) h (i := 6) (by decide) (a := 19) (by decide)
  rw [show (128 + nI 6 : Int32) = 134 from by decide] at iw
  by_cases e : M.1 3 c = 134
  · rw [cEq_s e] at iw
    by_cases hn : n < 16
    · rcases told_al g (j := 2) (by omega) h (i := 6) (by decide) (t := 134) (a := 19) (by decide) (by decide) 0 999 with ⟨u, _⟩ | ⟨_, I0, v, I1, J1, p1, p2, p3, p4, p5, p6⟩
      · exact absurd e u
      · have i0 := expC_u g (by omega) h (by decide) e p1
        have e0 : I0 67 4 = nI n := by rw [i0, zu_ne1 (by omega)]; exact hs.2.1
        have e1 : I1 67 4 = nI n := by rw [p4.1 67 (by omega)]; exact hs.2.1
        have j6 : J1 72 6 = nI t := by rw [p5.2 6 (by omega) (by omega) (by omega) (by omega) (by omega) (by omega)]; exact h6
        have ml : ∀ x : Int32, ∀ J2 : zI, X_X12_readDeed g [.ref 72, .int (nI (64 + 4 * n))] N = some (some (.int x), (J2, N.2)) → zX (t_X12_readAgenda g) 2 [some (.ref 72), some (.int (nI n))] [] N = (bif cEq x (-1) then some (some (.int (-1)), (J2, N.2)) else zX (t_X12_readAgenda g) 2 [some (.ref 72), some (.int (nI (n + 1)))] [] (J2, N.2)) := by
          intro x J2 hx
          rw [e_X12_readAgenda_2, iw, zbI_s, show cEq0 (b01 true) = false from rfl, bif_f, show cEq (nI n) 16 = false from by rw [show (16 : Int32) = nI 16 from rfl, cEq_nI (by omega) (by omega), decide_eq_false (by omega)], bif_f, show (64 + 4 * nI n : Int32) = nI (64 + 4 * n) from by rw [show (4 : Int32) = nI 4 from rfl, show nI 4 * nI n = nI (4 * n) from by unfold nI; rw [← Int32.ofNat_mul], show (64 : Int32) = nI 64 from rfl, nI_ad2], hx, zbI_s, nI_s1]
        rcases p6 with ⟨hv, p6⟩ | ⟨d, w1, w2, w3, p6⟩
        · subst hv
          refine ⟨false, (zu I1 68 n (-1)), (zu J1 90 (64 + 4 * n) (-1)), ?_, ?_, AFc_t (AFc_p p4) (AFc_u (by omega)), AFm_t (AFm_p p5) (AFm_u (by omega)), fun _ => FL_90 (FL_Ix p6 (by omega)), fun c => absurd c (by decide)⟩
          · rw [x_X0_readLine_0, tokenC_s g h, zbI_s, cEq_s e, bif_t, hs.2.1, clT (c := 16) (n := 16) rfl hn (by omega), bif_t, e_X0_readLine_25, p1, zbI_s, show cEq0 (1 : Int32) = false from rfl, bif_f, p2, zbI_s]
            dsimp only
            rw [e0, e1, zb_nI (n := n) (by omega), decide_eq_true hn, bif_t, bif_t, zx_nI (n := n) (by omega), zu_eq, show cEq (-1 : Int32) (-1) = true from cEq_s rfl, bif_t]
            rfl
          · have rr : X_X12_readDeed g [.ref 72, .int (nI (64 + 4 * n))] N = some (some (.int (-1)), ((zu J1 90 (64 + 4 * n) (-1)), N.2)) := by
              rw [x_X12_readDeed_0, p3, zbI_s, zb_nI (n := 64 + 4 * n) (by omega), decide_eq_true (p := 64 + 4 * n < 128) (by omega), bif_t, bif_t, zx_nI (n := 64 + 4 * n) (by omega)]
              dsimp only
              rw [zu_eq, show cEq (-1 : Int32) (-1) = true from cEq_s rfl, bif_t]
            rw [ml _ _ rr, show cEq (-1 : Int32) (-1) = true from cEq_s rfl, bif_t]
            rfl
        · subst w2
          have tk : TKS 2 f L (c + 2) m (zu (zu I1 68 n (nI d)) 69 n (I1 3 (c + 2) - 128)) (zu J1 90 (64 + 4 * n) (nI d)) := TKS_J90 (TKS_Ix (TKS_Ix p6 (by omega)) (by omega))
          have t3 : (zu (zu I1 68 n (nI d)) 69 n (I1 3 (c + 2) - 128)) 3 (c + 2) = I1 3 (c + 2) := by rw [zu_ne1 (by omega), zu_ne1 (by omega)]
          have tr := (TKS_r (by omega) tk).1
          rw [t3] at tr
          have cl : X_X0_readLine g [.ref 67, .ref 1, .int (nI t)] M = (bif cEq0 (b01 (inb (I1 3 (c + 2) - 128) 0 5)) then (zbI (X_X9_refuse g [.ref 1, .int 1] ((zu (zu I1 68 n (nI d)) 69 n (I1 3 (c + 2) - 128)), M.2)) (fun x5 M5 => (bif cEq (x5 &&& 1) x5 then some (some (.int x5), M5) else none))) else (zbV (X_X9_step g [.ref 1] ((zu (zu I1 68 n (nI d)) 69 n (I1 3 (c + 2) - 128)), M.2)) (fun M6 => (bif zb (M6.1 67 4) 16 then (bif cEq (M6.1 69 (zx (M6.1 67 4))) 5 then (zbI (X_X9_expect g [.ref 1, .int 59] ((zu M6.1 67 4 ((M6.1 67 4) + 1)), M6.2)) (fun x7 M7 => (bif cEq (x7 &&& 1) x7 then some (some (.int x7), M7) else none))) else (zbI (X_X0_readWhom g [.ref 67, .ref 1, .int (nI t)] M6) (fun x8 M8 => (bif cEq0 x8 then some (some (.int 0), M8) else (zbI (X_X9_expect g [.ref 1, .int 59] ((zu M8.1 67 4 ((M8.1 67 4) + 1)), M8.2)) (fun x9 M9 => (bif cEq (x9 &&& 1) x9 then some (some (.int x9), M9) else none))))))) else none)))) := by
            rw [x_X0_readLine_0, tokenC_s g h, zbI_s, cEq_s e, bif_t, hs.2.1, clT (c := 16) (n := 16) rfl hn (by omega), bif_t, e_X0_readLine_25, p1, zbI_s, show cEq0 (1 : Int32) = false from rfl, bif_f, p2, zbI_s]
            dsimp only
            rw [e0, e1, zb_nI (n := n) (by omega), decide_eq_true hn, bif_t, bif_t, zx_nI (n := n) (by omega), zu_eq, nI_nm1 w1, bif_f, tokenC_s g (j := 2) (f := f) (L := L) (c := c + 2) (m := m) (M := ((zu I1 68 n (nI d)), M.2)) (J := J1) (TKS_Ix p6 (by omega)), zbI_s]
            dsimp only
            rw [zu_ne1 (b := 67) (by omega), e1, zb_nI (n := n) (by omega), decide_eq_true hn, bif_t, bif_t, zx_nI (n := n) (by omega), zu_eq, zu_ne1 (b := 3) (by omega), within_s, zbI_s]
          have rf : X_X12_readDeed g [.ref 72, .int (nI (64 + 4 * n))] N = (bif cEq (kdR (J1 72 16) (J1 72 17)) (-1) then (zbI (X_X12_errs g [.ref 72, .int 1] ((zu J1 90 (64 + 4 * n) (nI d)), N.2)) (fun x3 M3 => some (some (.int x3), M3))) else (zbV (X_X12_reads g [.ref 72] ((zu J1 90 (64 + 4 * n) (nI d)), N.2)) (fun M4 => (bif cEq (kdR (J1 72 16) (J1 72 17)) 5 then zX (t_X12_readDeed g) 84 [some (.ref 72), some (.int (nI (64 + 4 * n))), some (.int (kdR (J1 72 16) (J1 72 17)))] [.int 0, .int (nI (64 + 4 * n) + 2), .ref 90] ((zu M4.1 90 (64 + 4 * n + 1) (kdR (J1 72 16) (J1 72 17))), M4.2) else (zbI (X_X12_readNumber g [.ref 72, .int 0, .int ((M4.1 72 6) - 1)] ((zu M4.1 90 (64 + 4 * n + 1) (kdR (J1 72 16) (J1 72 17))), M4.2)) (fun x5 M5 => zX (t_X12_readDeed g) 84 [some (.ref 72), some (.int (nI (64 + 4 * n))), some (.int (kdR (J1 72 16) (J1 72 17)))] [.int x5, .int (nI (64 + 4 * n) + 2), .ref 90] M5)))))) := by
            rw [x_X12_readDeed_0, p3, zbI_s, zb_nI (n := 64 + 4 * n) (by omega), decide_eq_true (p := 64 + 4 * n < 128) (by omega), bif_t, bif_t, zx_nI (n := 64 + 4 * n) (by omega)]
            dsimp only
            rw [zu_eq, nI_nm1 w1, bif_f, kindM_s, zbI_s, nI_s1, zb_nI (n := 64 + 4 * n + 1) (by omega), decide_eq_true (p := 64 + 4 * n + 1 < 128) (by omega), zx_nI (n := 64 + 4 * n + 1) (by omega)]
            dsimp only
            rw [zu_ne1 (b := 72) (by omega), zu_ne1 (b := 72) (by omega)]
            simp only [bif_t]
          rw [zu_ne1 (b := 72) (by omega), zu_ne1 (b := 72) (by omega)] at tr
          rcases kd_al tr with ⟨k1, k2⟩ | ⟨i, hi, k1, k2, k3, k4⟩
          · obtain ⟨f1, f2, f3⟩ := fl_al (I := zu (zu I1 68 n (nI d)) 69 n (I1 3 (c + 2) - 128)) (J := zu J1 90 (64 + 4 * n) (nI d)) 1 (nI (plS f L 0 (c + 2)))
            rw [k2, show cEq0 (b01 false) = true from rfl, bif_t, refuC_s g (M := ((zu (zu I1 68 n (nI d)) 69 n (I1 3 (c + 2) - 128)), M.2)) (by omega) tk, zbI_s] at cl
            rw [k1, show cEq (-1 : Int32) (-1) = true from cEq_s rfl, bif_t, errsM_s g (N := ((zu J1 90 (64 + 4 * n) (nI d)), N.2)) (j := 2) (by omega) tk, zbI_s] at rf
            refine ⟨false, _, _, cl, ?_, AFc_t (AFc_p p4) (AFc_t (AFc_u (by omega)) (AFc_t (AFc_u (by omega)) (AFc_p f1))), AFm_t (AFm_p p5) (AFm_t (AFm_u (by omega)) (AFm_p f2)), fun _ => f3, fun c => absurd c (by decide)⟩
            rw [ml _ _ rf, show cEq (-1 : Int32) (-1) = true from cEq_s rfl, bif_t]
            rfl
          · obtain ⟨s1, s2⟩ := stepC_s g (M := ((zu (zu I1 68 n (nI d)) 69 n (I1 3 (c + 2) - 128)), M.2)) (by omega) tk (by
              dsimp only
              rw [t3, k2]
              exact wd_nz (j := 2) (by omega) (by show i < 7; omega))
            obtain ⟨J2, r1, r2, r3⟩ := readsM_s g (N := ((zu J1 90 (64 + 4 * n) (nI d)), N.2)) tk s1
            dsimp only at s2 r1 r2
            rw [k4, show cEq0 (b01 true) = false from rfl, bif_f, s2, zbV_s] at cl
            rw [k1, nI_nm1 (by omega), bif_f, r1, zbV_s] at rf
            dsimp only at cl rf
            have g4 : (zu (zu (zu I1 68 n (nI d)) 69 n (I1 3 (c + 2) - 128)) 1 4 (nI (c + 2 + 1))) 67 4 = nI n := by rw [zu_ne1 (by omega), zu_ne1 (by omega), zu_ne1 (by omega)]; exact e1
            have g69 : (zu (zu (zu I1 68 n (nI d)) 69 n (I1 3 (c + 2) - 128)) 1 4 (nI (c + 2 + 1))) 69 n = nI i := by rw [zu_ne1 (by omega), zu_eq, k3]
            have g6 : J2 72 6 = nI t := by rw [r2.2 6 (by omega) (by omega) (by omega) (by omega), zu_ne1 (by omega)]; exact j6
            rw [g4, zb_nI (n := n) (by omega), decide_eq_true hn, bif_t, zx_nI (n := n) (by omega), g69, nI_s1] at cl
            rw [g6] at rf
            have as2 : AS n t dy wt wm mu (zu (zu (zu I1 68 n (nI d)) 69 n (I1 3 (c + 2) - 128)) 1 4 (nI (c + 2 + 1))) (zu J2 90 (64 + 4 * n + 1) (nI i)) := by
              refine ⟨hs.1, g4, fun k hk => ?_⟩
              rw [zu_ne1 (b := 68) (by omega), zu_ne1 (b := 68) (by omega), zu_ne2 (j := k) (by omega), zu_ne1 (b := 69) (by omega), zu_ne2 (j := k) (by omega), zu_ne1 (b := 69) (by omega), zu_ne1 (b := 70) (by omega), zu_ne1 (b := 70) (by omega), zu_ne1 (b := 70) (by omega), zu_ne1 (b := 71) (by omega), zu_ne1 (b := 71) (by omega), zu_ne1 (b := 71) (by omega), zu_ne2 (by omega), zu_ne2 (by omega), zu_ne2 (by omega), zu_ne2 (by omega), r2.1 90 (by omega), zu_ne2 (by omega), zu_ne2 (by omega), zu_ne2 (by omega), zu_ne2 (by omega), p4.1 68 (by omega), p4.1 69 (by omega), p4.1 70 (by omega), p4.1 71 (by omega), p5.1 90 (by omega)]
              exact hs.2.2 k hk
            obtain ⟨ok, I', J', y1, y2, y3, y4, y5, y6⟩ := aline_al g (M := ((zu (zu (zu I1 68 n (nI d)) 69 n (I1 3 (c + 2) - 128)) 1 4 (nI (c + 2 + 1))), M.2)) (N := ((zu J2 90 (64 + 4 * n + 1) (nI i)), N.2)) (i := i) (d := d) (TKS_J90 r3) as2 ht hn hi (by dsimp only; rw [zu_ne1 (by omega), zu_ne1 (by omega), zu_eq]) g69 (by dsimp only; rw [zu_ne2 (by omega), r2.1 90 (by omega), zu_eq]) (by dsimp only; exact zu_eq)
            dsimp only at y1 y2 y3 y4
            refine ⟨ok, I', J', cl.trans y1, ?_, AFc_t (AFc_p p4) (AFc_t (AFc_u (by omega)) (AFc_t (AFc_u (by omega)) (AFc_t (AFc_p (PFc_u (by omega))) y3))), AFm_t (AFm_p p5) (AFm_t (AFm_u (by omega)) (AFm_t (AFm_p (PFm_d r2)) (AFm_t (AFm_u (by omega)) y4))), y5, fun hok => ⟨hn, y6 hok⟩⟩
            rw [ml _ _ (rf.trans y2)]
            cases ok <;> rfl
    · have e16 : n = 16 := by have := hs.1; omega
      subst e16
      obtain ⟨f1, f2, f3⟩ := fl_al (I := M.1) (J := N.1) 3 (nI (plS f L 0 c))
      refine ⟨false, _, _, ?_, ?_, AFc_p f1, AFm_p f2, fun _ => f3, fun c => absurd c (by decide)⟩
      · rw [x_X0_readLine_0, tokenC_s g h, zbI_s, cEq_s e, bif_t, hs.2.1, clF (c := 16) (n := 16) rfl (by omega) (by omega), bif_f, refuC_s g (by omega) h, zbI_s]
        rfl
      · rw [e_X12_readAgenda_2, iw, zbI_s, show cEq0 (b01 true) = false from rfl, bif_f, show cEq (nI 16) 16 = true from cEq_s rfl, bif_t, errsM_s g (by omega) h, zbI_s]
        rfl
  · rw [cEq_n e] at iw
    obtain ⟨f1, f2, f3⟩ := fl_al (I := M.1) (J := N.1) 1 (nI (plS f L 0 c))
    refine ⟨false, _, _, ?_, ?_, AFc_p f1, AFm_p f2, fun _ => f3, fun c => absurd c (by decide)⟩
    · rw [x_X0_readLine_0, tokenC_s g h, zbI_s, cEq_n e, bif_f, e_X0_readLine_25, expC_f g (by omega) h e, zbI_s, show cEq0 (0 : Int32) = true from rfl, bif_t]
      rfl
    · rw [e_X12_readAgenda_2, iw, zbI_s, show cEq0 (b01 false) = true from rfl, bif_t, TKR_end (j := 2) (by omega) (TKS_r (by omega) h).1, cEq0_n hT, bif_f, errsM_s g (by omega) h, zbI_s]
      rfl
