/-! PURE ROWS: a line of rounds; all of them -/
theorem FL_89 {I J : zI} {k : Nat} {v : Int32} (h : FL I J) : FL I (zu J 89 k v) := ⟨by rw [zu_ne1 (by omega)]; exact h.1, by rw [zu_ne1 (by omega)]; exact h.2⟩
theorem round_al (g : zg) {f : Nat → Int32} {L c m n : Nat} {la : Nat → Nat} {mv : Nat → Int32} {M N : zM} (h : TKS 1 f L c m M.1 N.1) (hs : RS n la mv M.1 N.1) (hT : ¬ M.1 3 c = 0) : ∃ ok I' J', X_X7_readLine g [.ref 64, .ref 1] M = some (some (.int (b01 ok)), (I', M.2)) ∧ zX (t_X12_readRounds g) 2 [some (.ref 72), some (.int (nI n))] [] N = (bif ok then zX (t_X12_readRounds g) 2 [some (.ref 72), some (.int (nI (n + 1)))] [] (J', N.2) else some (some (.int (-1)), (J', N.2))) ∧ RFc M.1 I' ∧ RFm N.1 J' ∧ (ok = false → FL I' J') ∧ (ok = true → n < 12 ∧ ∃ c' la' mv', TKS 1 f L c' m I' J' ∧ RS (n + 1) la' mv' I' J') := by
  have iw := isWordM_s g (j := 1) (by omega) h (i := 0) (by decide) (a := 16) (by decide)
  rw [show (128 + nI 0 : Int32) = 128 from by decide] at iw
  by_cases e : M.1 3 c = 128
  · rw [cEq_s e] at iw
    by_cases hn : n < 12
    · rcases told_al g (j := 1) (by omega) h (i := 0) (by decide) (t := 128) (a := 16) (by decide) (by decide) 1 30 with ⟨u, _⟩ | ⟨_, I0, v, I1, J1, p1, p2, p3, p4, p5, p6⟩
      · exact absurd e u
      · have cl : X_X7_readLine g [.ref 64, .ref 1] M = (bif cEq v (-1) then some (some (.int 0), (I1, M.2)) else (zbI (X_X9_token g [.ref 1] (I1, M.2)) (fun x3 M3 => (bif cEq x3 129 then zX (t_X7_readLine g) 77 [some (.ref 64), some (.ref 1), some (.int v), some (.int x3), none] [] M3 else (bif cEq x3 130 then zX (t_X7_readLine g) 77 [some (.ref 64), some (.ref 1), some (.int v), some (.int x3), none] [] M3 else (zbI (X_X9_refuse g [.ref 1, .int 1] M3) (fun x4 M4 => (bif cEq (x4 &&& 1) x4 then some (some (.int x4), M4) else none)))))))) := by
          rw [x_X7_readLine_0, tokenC_s g h, zbI_s, cEq_s e, bif_t, hs.2.1, clT (c := 12) (n := 12) rfl hn (by omega), bif_t, e_X7_readLine_25, p1, zbI_s, show cEq0 (1 : Int32) = false from rfl, bif_f, p2, zbI_s]
        have rf : X_X12_readRound g [.ref 72, .int (nI (24 + 2 * n))] N = (bif cEq v (-1) then some (some (.int (-1)), ((zu J1 89 (24 + 2 * n) v), N.2)) else (zbI (X_X12_isWord g [.ref 72, .int 17] ((zu J1 89 (24 + 2 * n) v), N.2)) (fun x2 M2 => (bif cEq0 x2 then (zbI (X_X12_isWord g [.ref 72, .int 18] M2) (fun x3 M3 => (bif cEq0 x3 then (zbI (X_X12_errs g [.ref 72, .int 1] M3) (fun x4 M4 => some (some (.int x4), M4))) else zX (t_X12_readRound g) 53 [some (.ref 72), some (.int (nI (24 + 2 * n))), some (.int x2), none] [] M3))) else zX (t_X12_readRound g) 53 [some (.ref 72), some (.int (nI (24 + 2 * n))), some (.int x2), none] [] M2)))) := by
          rw [x_X12_readRound_0, p3, zbI_s, zb_nI (by omega), decide_eq_true (by omega), bif_t, bif_t, zx_nI (by omega)]
          dsimp only
          rw [zu_eq]
        have ml : ∀ x : Int32, ∀ J2 : zI, X_X12_readRound g [.ref 72, .int (nI (24 + 2 * n))] N = some (some (.int x), (J2, N.2)) → zX (t_X12_readRounds g) 2 [some (.ref 72), some (.int (nI n))] [] N = (bif cEq x (-1) then some (some (.int (-1)), (J2, N.2)) else zX (t_X12_readRounds g) 2 [some (.ref 72), some (.int (nI (n + 1)))] [] (J2, N.2)) := by
          intro x J2 hx
          rw [e_X12_readRounds_2, iw, zbI_s, show cEq0 (b01 true) = false from rfl, bif_f, show cEq (nI n) 12 = false from by rw [show (12 : Int32) = nI 12 from rfl, cEq_nI (by omega) (by omega), decide_eq_false (by omega)], bif_f, show (24 + 2 * nI n : Int32) = nI (24 + 2 * n) from by rw [show (2 : Int32) = nI 2 from rfl, show nI 2 * nI n = nI (2 * n) from by unfold nI; rw [← Int32.ofNat_mul], show (24 : Int32) = nI 24 from rfl, nI_ad2], hx, zbI_s, nI_s1]
        rcases p6 with ⟨hv, p6⟩ | ⟨w, w1, w2, w3, p6⟩
        · subst hv
          rw [show cEq (-1 : Int32) (-1) = true from cEq_s rfl, bif_t] at cl rf
          refine ⟨false, _, _, cl, ?_, RFc_p p4, RFm_t (RFm_p p5) (RFm_u (k := 24 + 2 * n) (v := -1) (by omega)), fun _ => FL_89 p6, fun c => absurd c (by decide)⟩
          rw [ml _ _ rf, show cEq (-1 : Int32) (-1) = true from cEq_s rfl, bif_t]
          rfl
        · subst w2
          rw [nI_nm1 w1, bif_f] at cl rf
          rw [tokenC_s g (M := (I1, M.2)) p6, zbI_s] at cl
          have t89 : TKS 1 f L (c + 2) m (I1, M.2).1 ((zu J1 89 (24 + 2 * n) (nI w)), N.2).1 := TKS_J89 p6
          rw [isWordM_s g (j := 1) (by omega) t89 (i := 1) (by decide) (a := 17) (by decide), zbI_s, isWordM_s g (j := 1) (by omega) t89 (i := 2) (by decide) (a := 18) (by decide), zbI_s, cEq0_b01, cEq0_b01, show (128 + nI 1 : Int32) = 129 from by decide, show (128 + nI 2 : Int32) = 130 from by decide] at rf
          dsimp only at cl rf t89
          have hw' : 1 ≤ w ∧ w ≤ 30 := by
            have q := inb_nI (a := 1) (b := 30) (k := w) (by omega) (by omega) (by omega)
            rw [show nI 1 = 1 from rfl, show nI 30 = 30 from rfl, w3] at q
            have q' := q.symm
            rw [Bool.and_eq_true, decide_eq_true_eq, decide_eq_true_eq] at q'
            exact q'
          have hs1 : RS n la mv I1 (zu J1 89 (24 + 2 * n) (nI w)) := by
            obtain ⟨z1, z2, z3, z4⟩ := hs
            refine ⟨z1, by rw [p4.1 64 (by omega)]; exact z2, by rw [p4.1 64 (by omega)]; exact z3, fun i hi => ?_⟩
            rw [p4.1 65 (by omega), p4.1 66 (by omega), zu_ne2 (by omega), zu_ne2 (by omega), p5.1 89 (by omega)]
            exact z4 i hi
          have go : ∀ up : Bool, I1 3 (c + 2) = (bif up then 129 else 130) → ∃ ok I' J', X_X7_readLine g [.ref 64, .ref 1] M = some (some (.int (b01 ok)), (I', M.2)) ∧ zX (t_X12_readRounds g) 2 [some (.ref 72), some (.int (nI n))] [] N = (bif ok then zX (t_X12_readRounds g) 2 [some (.ref 72), some (.int (nI (n + 1)))] [] (J', N.2) else some (some (.int (-1)), (J', N.2))) ∧ RFc M.1 I' ∧ RFm N.1 J' ∧ (ok = false → FL I' J') ∧ (ok = true → n < 12 ∧ ∃ c' la' mv', TKS 1 f L c' m I' J' ∧ RS (n + 1) la' mv' I' J') := by
            intro up hup
            obtain ⟨ok, I', J', y1, y2, y3, y4, y5, y6⟩ := rline_al g (M := (I1, M.2)) (N := ((zu J1 89 (24 + 2 * n) (nI w)), N.2)) (up := up) t89 hs1 hn hw' hup (by dsimp only; exact zu_eq)
            refine ⟨ok, I', J', ?_, ?_, RFc_t (RFc_p p4) y3, RFm_t (RFm_p p5) (RFm_t (RFm_u (by omega)) y4), y5, fun hok => ⟨hn, y6 hok⟩⟩
            · rw [cl, hup]
              cases up
              · exact y1
              · exact y1
            · have rr : X_X12_readRound g [.ref 72, .int (nI (24 + 2 * n))] N = some (some (.int (bif ok then 0 else -1)), (J', N.2)) := by
                rw [rf, hup]
                cases up
                · exact y2
                · exact y2
              rw [ml _ _ rr]
              cases ok <;> rfl
          by_cases u1 : I1 3 (c + 2) = 129
          · exact go true u1
          · by_cases u2 : I1 3 (c + 2) = 130
            · exact go false u2
            · obtain ⟨f1, f2, f3⟩ := fl_al (I := I1) (J := zu J1 89 (24 + 2 * n) (nI w)) 1 (nI (plS f L 0 (c + 2)))
              rw [cEq_n u1, bif_f, cEq_n u2, bif_f, refuC_s g (M := (I1, M.2)) (by omega) p6, zbI_s] at cl
              rw [cEq_n u1, Bool.not_false, bif_t, cEq_n u2, Bool.not_false, bif_t, errsM_s g (N := ((zu J1 89 (24 + 2 * n) (nI w)), N.2)) (j := 1) (by omega) t89, zbI_s] at rf
              refine ⟨false, _, _, cl, ?_, RFc_p (PFc_t p4 f1), RFm_t (RFm_p p5) (RFm_t (RFm_u (by omega)) (RFm_p f2)), fun _ => f3, fun c => absurd c (by decide)⟩
              rw [ml _ _ rf, show cEq (-1 : Int32) (-1) = true from cEq_s rfl, bif_t]
              rfl
    · have e12 : n = 12 := by have := hs.1; omega
      subst e12
      obtain ⟨f1, f2, f3⟩ := fl_al (I := M.1) (J := N.1) 3 (nI (plS f L 0 c))
      refine ⟨false, _, _, ?_, ?_, RFc_p f1, RFm_p f2, fun _ => f3, fun c => absurd c (by decide)⟩
      · rw [x_X7_readLine_0, tokenC_s g h, zbI_s, cEq_s e, bif_t, hs.2.1, clF (c := 12) (n := 12) rfl (by omega) (by omega), bif_f, refuC_s g (by omega) h, zbI_s]
        rfl
      · rw [e_X12_readRounds_2, iw, zbI_s, show cEq0 (b01 true) = false from rfl, bif_f, show cEq (nI 12) 12 = true from cEq_s rfl, bif_t, errsM_s g (by omega) h, zbI_s]
        rfl
  · rw [cEq_n e] at iw
    obtain ⟨f1, f2, f3⟩ := fl_al (I := M.1) (J := N.1) 1 (nI (plS f L 0 c))
    refine ⟨false, _, _, ?_, ?_, RFc_p f1, RFm_p f2, fun _ => f3, fun c => absurd c (by decide)⟩
    · rw [x_X7_readLine_0, tokenC_s g h, zbI_s, cEq_n e, bif_f, e_X7_readLine_25, expC_f g (by omega) h e, zbI_s, show cEq0 (0 : Int32) = true from rfl, bif_t]
      rfl
    · rw [e_X12_readRounds_2, iw, zbI_s, show cEq0 (b01 false) = true from rfl, bif_t, TKR_end (j := 1) (by omega) (TKS_r (by omega) h).1, cEq0_n hT, bif_f, errsM_s g (by omega) h, zbI_s]
      rfl
theorem rounds_al (g : zg) {f : Nat → Int32} {L m : Nat} (k : Nat) : ∀ (n c : Nat) (la : Nat → Nat) (mv : Nat → Int32) (M N : zM), n + k = 12 → TKS 1 f L c m M.1 N.1 → RS n la mv M.1 N.1 → ∃ ok v I' J', zX (t_X7_read g) 18 [some (.ref 64), some (.ref 1), some (.int (nI n))] [] M = some (some (.int (b01 ok)), (I', M.2)) ∧ zX (t_X12_readRounds g) 2 [some (.ref 72), some (.int (nI n))] [] N = some (some (.int v), (J', N.2)) ∧ RFc M.1 I' ∧ RFm N.1 J' ∧ (ok = false → v = -1 ∧ FL I' J') ∧ (ok = true → (I' 1 6 = 0 ∧ I' 1 7 = -1) ∧ ∃ n' la' mv', v = nI n' ∧ RS n' la' mv' I' J') := by
  have stp : ∀ (n c : Nat) (la : Nat → Nat) (mv : Nat → Int32) (M N : zM), n ≤ 12 → TKS 1 f L c m M.1 N.1 → RS n la mv M.1 N.1 → (∃ ok v I' J', zX (t_X7_read g) 18 [some (.ref 64), some (.ref 1), some (.int (nI n))] [] M = some (some (.int (b01 ok)), (I', M.2)) ∧ zX (t_X12_readRounds g) 2 [some (.ref 72), some (.int (nI n))] [] N = some (some (.int v), (J', N.2)) ∧ RFc M.1 I' ∧ RFm N.1 J' ∧ (ok = false → v = -1 ∧ FL I' J') ∧ (ok = true → (I' 1 6 = 0 ∧ I' 1 7 = -1) ∧ ∃ n' la' mv', v = nI n' ∧ RS n' la' mv' I' J')) ∨ (n < 12 ∧ ∃ I' J' c' la' mv', zX (t_X7_read g) 18 [some (.ref 64), some (.ref 1), some (.int (nI n))] [] M = zX (t_X7_read g) 18 [some (.ref 64), some (.ref 1), some (.int (nI (n + 1)))] [] (I', M.2) ∧ zX (t_X12_readRounds g) 2 [some (.ref 72), some (.int (nI n))] [] N = zX (t_X12_readRounds g) 2 [some (.ref 72), some (.int (nI (n + 1)))] [] (J', N.2) ∧ RFc M.1 I' ∧ RFm N.1 J' ∧ TKS 1 f L c' m I' J' ∧ RS (n + 1) la' mv' I' J') := by
    intro n c la mv M N hn h hs
    have c18 : zX (t_X7_read g) 18 [some (.ref 64), some (.ref 1), some (.int (nI n))] [] M = (bif cEq0 (M.1 3 c) then some (some (.int 1), M) else (zbI (X_X7_readLine g [.ref 64, .ref 1] M) (fun x2 M2 => (bif cEq0 x2 then some (some (.int 0), M2) else zX (t_X7_read g) 18 [some (.ref 64), some (.ref 1), some (.int (nI (n + 1)))] [] M2)))) := by
      rw [e_X7_read_18, show cGt (nI n) 12 = false from by rw [show (12 : Int32) = nI 12 from rfl, cGt_nI (by omega) (by omega), decide_eq_false (by omega)], bif_f, tokenC_s g h, zbI_s, nI_s1]
    by_cases hT : M.1 3 c = 0
    · left
      rw [cEq0_s hT, bif_t] at c18
      have iw := isWordM_s g (j := 1) (by omega) h (i := 0) (by decide) (a := 16) (by decide)
      rw [hT, show cEq (0 : Int32) (128 + nI 0) = false from by decide] at iw
      refine ⟨true, nI n, M.1, N.1, c18, ?_, ⟨fun _ _ _ _ _ => rfl, fun _ _ _ _ => rfl⟩, ⟨fun _ _ _ => rfl, fun _ _ => rfl, fun _ _ _ _ _ _ _ => rfl⟩, fun c => absurd c (by decide), fun _ => ⟨h.1.2.2, n, la, mv, rfl, hs⟩⟩
      rw [e_X12_readRounds_2, iw, zbI_s, show cEq0 (b01 false) = true from rfl, bif_t, TKR_end (j := 1) (by omega) (TKS_r (by omega) h).1, cEq0_s hT, bif_t]
    · rw [cEq0_n hT, bif_f] at c18
      obtain ⟨ok, I', J', q1, q2, q3, q4, q5, q6⟩ := round_al g h hs hT
      rw [q1, zbI_s, cEq0_b01] at c18
      cases ok
      · left
        exact ⟨false, -1, I', J', c18, q2, q3, q4, fun _ => ⟨rfl, q5 rfl⟩, fun c => absurd c (by decide)⟩
      · right
        obtain ⟨y1, c', la', mv', y2, y3⟩ := q6 rfl
        exact ⟨y1, I', J', c', la', mv', c18, q2, q3, q4, y2, y3⟩
  induction k with
  | zero =>
    intro n c la mv M N hk h hs
    rcases stp n c la mv M N (by omega) h hs with q | ⟨q, _⟩
    · exact q
    · omega
  | succ k ih =>
    intro n c la mv M N hk h hs
    rcases stp n c la mv M N (by omega) h hs with q | ⟨_, I1, J1, c', la', mv', q1, q2, q3, q4, q5, q6⟩
    · exact q
    · obtain ⟨ok, v, I', J', r1, r2, r3, r4, r5, r6⟩ := ih (n + 1) c' la' mv' (I1, M.2) (J1, N.2) (by omega) q5 q6
      exact ⟨ok, v, I', J', q1.trans r1, q2.trans r2, RFc_t q3 r3, RFm_t q4 r4, r5, r6⟩
