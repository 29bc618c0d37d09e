/-! PURE ROWS: tests joined, on both sides -/
/-- the reference behind the last test of a bracket -/
noncomputable def finM (g : zg) (b : Int32) (M4 : zM) : Option (Option Value × zM) := (bif cEq0 b then some (some (.int 0), M4) else (zbI (X_X12_isSign g [.ref 72, .int 41] M4) (fun x5 M5 => (bif cEq0 x5 then (zbI (X_X12_errs g [.ref 72, .int 1] M5) (fun x6 M6 => some (some (.int x6), M6))) else (zbV (X_X12_settles g [.ref 72, .int 9] ((zu (zu M5.1 72 30 ((M5.1 72 30) - 1)) 72 28 ((M5.1 72 28) - 1)), M5.2)) (fun M7 => (zbV (X_X12_reads g [.ref 72] M7) (fun M8 => zX (t_X12_readAny g) 9 [some (.ref 72), some (.int (b - 1)), some (.int 0), none] [] M8))))))))
def TesR (g : zg) (f : Nat → Int32) (L m n q op c s b : Nat) (p : List Nat) (M N : zM) : Prop := ∃ ok I', X_T g n [.ref 56, .ref 1, .int (nI op)] M = some (some (.int (b01 ok)), (I', M.2)) ∧ GFc s M.1 I' ∧ (ok = false → ∃ J', zX (t_X12_readAny g) 9 [some (.ref 72), some (.int (nI b)), some (.int 1), none] [] N = some (some (.int (-1)), (J', N.2)) ∧ EFm s N.1 J' ∧ FL I' J') ∧ (ok = true → ∃ J' c' s', zX (t_X12_readAny g) 9 [some (.ref 72), some (.int (nI b)), some (.int 1), none] [] N = zX (t_X12_readAny g) 9 [some (.ref 72), some (.int (nI b)), some (.int 0), none] [] (J', N.2) ∧ EFm s N.1 J' ∧ TKS 0 f L c' m I' J' ∧ LGq 9 q s' I' J' ∧ PS p (op - q) J' ∧ s ≤ s' ∧ c < c' ∧ s' + c ≤ s + c' ∧ ∀ st : List Nat, st.length ≤ 2 * op + 2 → TY J' s s' st (1 :: st))
def flg (b : Bool) (w : Nat) : List Nat := if b = true then [w] else []
theorem flg_len (b : Bool) (w : Nat) : (flg b w).length = b.toNat := by cases b <;> rfl
theorem flg_rep (b : Bool) (w : Nat) : flg b w = List.replicate b.toNat w := by cases b <;> rfl
def EitR (g : zg) (f : Nat → Int32) (L m n op c s b i : Nat) (ro ra : Bool) (p : List Nat) (M N : zM) : Prop := ∃ ok I', zX (t_X4_readEither g (X_T g n)) 8 [some (.ref 56), some (.ref 1), some (.int (nI op)), some (.int (b01 ro)), some (.int (b01 ra)), some (.int (nI i))] [] M = some (some (.int (b01 ok)), (I', M.2)) ∧ GFc s M.1 I' ∧ (ok = false → ∃ J', zX (t_X12_readAny g) 9 [some (.ref 72), some (.int (nI b)), some (.int 1), none] [] N = some (some (.int (-1)), (J', N.2)) ∧ EFm s N.1 J' ∧ FL I' J') ∧ (ok = true → ∃ J' c' s', zX (t_X12_readAny g) 9 [some (.ref 72), some (.int (nI b)), some (.int 1), none] [] N = finM g (nI b) (J', N.2) ∧ EFm s N.1 J' ∧ TKS 0 f L c' m I' J' ∧ LG s' I' J' ∧ PS p op J' ∧ s ≤ s' ∧ c < c' ∧ s' + c ≤ s + ro.toNat + ra.toNat + c' ∧ ∀ st : List Nat, st.length ≤ 2 * op → TY J' s s' (flg ra 1 ++ (flg ro 1 ++ st)) (1 :: st))
/-- AND or OR that waited is told on both sides -/
theorem join_al (g : zg) {f : Nat → Int32} {L m c s w op : Nat} {fl : Bool} {p : List Nat} {M N : zM} (hw : w = 10 ∨ w = 11) (hp : ∀ x r, p = x :: r → ¬ x = w) (h : TKS 0 f L c m M.1 N.1) (hl : LG s M.1 N.1) (hps : PS (flg fl w ++ p) op N.1) (hs : s + fl.toNat ≤ 400) : ∃ I' J', (∀ K : zM → Option (Option Value × zM), (bif fl then zbV (X_X4_emit g [.ref 56, .int (cdOf w 0)] M) K else K M) = K (I', M.2)) ∧ X_X12_settles g [.ref 72, .int (nI w)] N = some (none, (J', N.2)) ∧ GFc s M.1 I' ∧ EFm s N.1 J' ∧ TKS 0 f L c m I' J' ∧ LG (s + fl.toNat) I' J' ∧ PS p op J' ∧ I' 3 = M.1 3 ∧ ∀ st : List Nat, TY J' s (s + fl.toNat) (1 :: (flg fl 1 ++ st)) (1 :: st) := by
  rw [flg_rep] at hps
  obtain ⟨J', z1, z2, z3, z4, z5⟩ := set_al g (w := w) (s := s) (p := p) (I := M.1) (by omega) hp fl.toNat 0 op op N (by rw [if_neg (by omega), Nat.add_zero]) hps (LG_w.2 hl) (by omega)
  rw [Nat.zero_add] at z3
  have tk : TKS 0 f L c m M.1 J' := TKS_E h (fun k u1 u2 => z5 k (by omega) (by omega) (by omega)) (z4.1 79 (by omega) (by omega) (by omega) (by omega)) (z4.1 80 (by omega) (by omega) (by omega) (by omega))
  cases fl
  · exact ⟨M.1, J', fun K => rfl, z1, GFc_p (PFc_r _), z4, tk, LG_w.1 z3, z2, rfl, fun st => TY_r⟩
  · obtain ⟨l1, l2, l3⟩ := LGq_em (w := w) (q := 0) z3 (by omega)
    have s4 : s < 400 := by
      have : true.toNat = 1 := rfl
      omega
    refine ⟨eC M.1 s (cdOf w 0), J', fun K => ?_, z1, GFc_e (Nat.le_refl s), z4, TKS_eC tk, LG_w.1 l1, z2, eC_ne (by omega), fun st => ?_⟩
    · rw [bif_t, emitC_s g hl.2.1 s4, zbV_s]
    · refine TY_1 ?_
      rw [l2, l3]
      exact Or.inr (Or.inr (Or.inr (Or.inr (Or.inr (Or.inr ⟨hw, st, rfl, rfl⟩)))))
theorem eit_al (g : zg) {f : Nat → Int32} {L m n : Nat} (hT : ∀ (q op c s b : Nat) (p : List Nat) (M N : zM), (∀ x r, p = x :: r → ¬ x = 9) → TKS 0 f L c m M.1 N.1 → LG s M.1 N.1 → PS (List.replicate q 9 ++ p) op N.1 → q ≤ op → b ≤ op → op ≤ 8 → 9 ≤ n + op → p.length + q ≤ 3 * op + 2 → s + (p.length + q) ≤ c → TesR g f L m n q op c s b p M N) (k : Nat) : ∀ (op c s b i : Nat) (ro ra : Bool) (p : List Nat) (M N : zM), (p = [] ∨ ∃ r, p = 12 :: r) → TKS 0 f L c m M.1 N.1 → LG s M.1 N.1 → PS (flg ra 10 ++ (flg ro 11 ++ p)) op N.1 → b ≤ op → op ≤ 8 → 9 ≤ n + op → p.length ≤ 3 * op → s + (p.length + ro.toNat + ra.toNat) ≤ c → 2 * i ≤ c → m ≤ c + k → EitR g f L m n op c s b i ro ra p M N := by
  have tn : ∀ x : Bool, x.toNat ≤ 1 := by intro x; cases x <;> decide
  have stp : ∀ (op c s b i : Nat) (ro ra : Bool) (p : List Nat) (M N : zM), (p = [] ∨ ∃ r, p = 12 :: r) → TKS 0 f L c m M.1 N.1 → LG s M.1 N.1 → PS (flg ra 10 ++ (flg ro 11 ++ p)) op N.1 → b ≤ op → op ≤ 8 → 9 ≤ n + op → p.length ≤ 3 * op → s + (p.length + ro.toNat + ra.toNat) ≤ c → 2 * i ≤ c → (∀ (c2 s2 i2 : Nat) (ro2 ra2 : Bool) (M2 N2 : zM), c < c2 → TKS 0 f L c2 m M2.1 N2.1 → LG s2 M2.1 N2.1 → PS (flg ra2 10 ++ (flg ro2 11 ++ p)) op N2.1 → s2 + (p.length + ro2.toNat + ra2.toNat) ≤ c2 → 2 * i2 ≤ c2 → EitR g f L m n op c2 s2 b i2 ro2 ra2 p M2 N2) → EitR g f L m n op c s b i ro ra p M N := by
    intro op c s b i ro ra p M N hp h hl hps hb hop hn hpl hs hi IH
    have hm : m ≤ 400 := h.2.1.1
    have hcm : c ≤ m := h.2.1.2.1
    have t1 := tn ro
    have t2 := tn ra
    have hd12 : ∀ w, ¬ w = 12 → ∀ x r, p = x :: r → ¬ x = w := by
      intro w hw x r e hx
      rcases hp with e2 | ⟨r2, e2⟩
      · rw [e2] at e
        exact absurd e (by simp)
      · rw [e2] at e
        have : 12 = x := (List.cons.inj e).1
        omega
    have hd11 : ∀ w, ¬ w = 12 → ¬ w = 11 → ∀ x r, flg ro 11 ++ p = x :: r → ¬ x = w := by
      intro w hw1 hw2 x r e
      cases ro
      · exact hd12 w hw1 x r e
      · have : 11 = x := (List.cons.inj e).1
        omega
    have hd10 : ∀ x r, flg ra 10 ++ (flg ro 11 ++ p) = x :: r → ¬ x = 9 := by
      intro x r e
      cases ra
      · exact hd11 9 (by omega) (by omega) x r e
      · have : 10 = x := (List.cons.inj e).1
        omega
    have plen : (flg ra 10 ++ (flg ro 11 ++ p)).length = p.length + ro.toNat + ra.toNat := by
      rw [List.length_append, List.length_append, flg_len, flg_len]
      omega
    obtain ⟨ok, I1, q1, q2, q3, q4⟩ := hT 0 op c s b (flg ra 10 ++ (flg ro 11 ++ p)) M N hd10 h hl hps (by omega) hb hop hn (by omega) (by omega)
    have cl : zX (t_X4_readEither g (X_T g n)) 8 [some (.ref 56), some (.ref 1), some (.int (nI op)), some (.int (b01 ro)), some (.int (b01 ra)), some (.int (nI i))] [] M = (bif ok then (bif ra then (zbV (X_X4_emit g [.ref 56, .int (cdOf 10 0)] (I1, M.2)) (fun M2 => zX (t_X4_readEither g (X_T g n)) 39 [some (.ref 56), some (.ref 1), some (.int (nI op)), some (.int (b01 ro)), none, some (.int (nI i))] [] M2)) else zX (t_X4_readEither g (X_T g n)) 39 [some (.ref 56), some (.ref 1), some (.int (nI op)), some (.int (b01 ro)), none, some (.int (nI i))] [] (I1, M.2)) else some (some (.int 0), (I1, M.2))) := by
      rw [e_X4_readEither_8, clT (c := 400) (n := 400) rfl (by omega) (by omega), bif_t, q1, zbI_s, cEq0_b01, cEq0_b01]
      cases ok
      · rfl
      · cases ra <;> rfl
    cases ok
    · exact ⟨false, I1, cl, q2, q3, fun c => absurd c (by decide)⟩
    · obtain ⟨J1, c1, s1, y1, y2, y3, y4, y5, y6, y7, y8, y9⟩ := q4 rfl
      have hc1 : c1 ≤ m := y3.2.1.2.1
      obtain ⟨I2, J2, z1, z2, z3, z4, z5, z6, z7, z8, z9⟩ := join_al g (fl := ra) (w := 10) (p := flg ro 11 ++ p) (op := op) (M := (I1, M.2)) (N := (J1, N.2)) (Or.inl rfl) (hd11 10 (by omega) (by omega)) y3 (LG_w.1 y4) y5 (by omega)
      dsimp only at z3 z4 z8
      rw [bif_t, z1] at cl
      have hT2 : I2 3 c1 = I1 3 c1 := by rw [z8]
      have fc2 : GFc s M.1 I2 := GFc_t q2 z3 y6
      have fm2 : EFm s N.1 J2 := EFm_t y2 z4 y6
      have tyA : ∀ st : List Nat, st.length ≤ 2 * op → TY J2 s (s1 + ra.toNat) (flg ra 1 ++ (flg ro 1 ++ st)) (1 :: (flg ro 1 ++ st)) := by
        intro st hst
        refine TY_t (TY_x (y9 (flg ra 1 ++ (flg ro 1 ++ st)) ?_) (fun j hj => z4.2.2 (800 + j) (by omega))) (z9 (flg ro 1 ++ st))
        rw [List.length_append, List.length_append, flg_len, flg_len]
        omega
      have w5 := isWordM_s g (j := 0) (by omega) (N := (J1, N.2)) y3 (i := 14) (by decide) (a := 5) (by decide)
      have w4 := isWordM_s g (j := 0) (by omega) (N := (J1, N.2)) y3 (i := 13) (by decide) (a := 4) (by decide)
      rw [show (128 + nI 14 : Int32) = 142 from by decide] at w5
      rw [show (128 + nI 13 : Int32) = 141 from by decide] at w4
      have s10 : X_X12_settles g [.ref 72, .int 10] (J1, N.2) = some (none, (J2, N.2)) := z2
      rw [e_X4_readEither_39, tokenC_s g (M := (I2, M.2)) z5, zbI_s] at cl
      dsimp only at cl
      have y0 := e_X12_readAny_9 g (nI b) 0 (J1, N.2)
      rw [show cEq0 (0 : Int32) = true from rfl, bif_t, w5, zbI_s, cEq0_b01, w4, zbI_s, cEq0_b01, s10, zbV_s, zbV_s, zbV_s] at y0
      replace y1 := y1.trans y0
      by_cases e142 : I1 3 c1 = 142
      · -- and
        rw [cEq_s e142, Bool.not_true, bif_f] at y1
        rw [cEq_s (hT2.trans e142), bif_t] at cl
        obtain ⟨k1, k2⟩ := stepC_s g (j := 0) (M := (I2, M.2)) (by omega) z5 (by dsimp only; rw [hT2, e142]; decide)
        obtain ⟨v1, v2⟩ := waitsM_s g (N := (J2, N.2)) (w := 10) z7 (by rw [List.length_append, flg_len]; omega) (by omega)
        dsimp only at k2 v1 v2
        have tk3 : TKS 0 f L c1 m I2 (zu (zu J2 88 (flg ro 11 ++ p).length (nI 10)) 72 30 (nI ((flg ro 11 ++ p).length + 1))) := TKS_E z5 (fun k _ _ => by rw [zu_ne2 (by omega), zu_ne1 (by omega)]) (by rw [zu_ne (by omega), zu_ne (by omega)]) (by rw [zu_ne (by omega), zu_ne (by omega)])
        obtain ⟨J4, r1, r2, r3⟩ := readsM_s g (N := ((zu (zu J2 88 (flg ro 11 ++ p).length (nI 10)) 72 30 (nI ((flg ro 11 ++ p).length + 1))), N.2)) tk3 k1
        dsimp only at r1 r2
        have r24 : EFm (s1 + ra.toNat) J2 J4 := EFm_t EFm_w (EFm_t (EFm_u (by omega)) (EFm_g (GFm_p (PFm_d r2))) (Nat.le_refl _)) (Nat.le_refl _)
        have lg4 : LG (s1 + ra.toNat) (zu I2 1 4 (nI (c1 + 1))) J4 := by
          refine LGq_x z6 (zu_ne1 (by omega)) (fun j _ => zu_ne1 (by omega)) ?_ (fun j _ => ?_)
          · rw [r2.2 27 (by omega) (by omega) (by omega) (by omega), zu_ne2 (by omega), zu_ne1 (by omega)]
          · exact r24.2.2 (800 + j) (by omega)
        have ps4 : PS (flg true 10 ++ (flg ro 11 ++ p)) op J4 := PS_x v2 (r2.2 30 (by omega) (by omega) (by omega) (by omega)) (r2.2 28 (by omega) (by omega) (by omega) (by omega)) (r2.1 88 (by omega))
        obtain ⟨ok, I', x1, x2, x3, x4⟩ := IH (c1 + 1) (s1 + ra.toNat) (i + 1) ro true ((zu I2 1 4 (nI (c1 + 1))), M.2) (J4, N.2) (by omega) r3 lg4 ps4 (by have : true.toNat = 1 := rfl; omega) (by omega)
        dsimp only at x1 x2 x3 x4
        have y1' : zX (t_X12_readAny g) 9 [some (.ref 72), some (.int (nI b)), some (.int 1), none] [] N = zX (t_X12_readAny g) 9 [some (.ref 72), some (.int (nI b)), some (.int 1), none] [] (J4, N.2) := by
          rw [y1, show X_X12_waits g [.ref 72, .int 10] (J2, N.2) = _ from v1, zbV_s, r1, zbV_s]
        rw [k2, zbV_s, nI_s1] at cl
        refine ⟨ok, I', cl.trans x1, GFc_t fc2 (GFc_t (GFc_p (PFc_u (by omega))) x2 (Nat.le_refl _)) (by omega), fun hok => ?_, fun hok => ?_⟩
        · obtain ⟨J', u1, u2, u3⟩ := x3 hok
          exact ⟨J', y1'.trans u1, EFm_t fm2 (EFm_t r24 u2 (Nat.le_refl _)) (by omega), u3⟩
        · obtain ⟨J', c', s', u1, u2, u3, u4, u5, u6, u7, u8, u9⟩ := x4 hok
          refine ⟨J', c', s', y1'.trans u1, EFm_t fm2 (EFm_t r24 u2 (Nat.le_refl _)) (by omega), u3, u4, u5, by omega, by omega, by have : true.toNat = 1 := rfl; omega, fun st hst => ?_⟩
          exact TY_t (TY_x (tyA st hst) (fun j hj => ⟨((u2.2.2 (800 + j) (by omega)).1).trans (r24.2.2 (800 + j) (by omega)).1, ((u2.2.2 (800 + j) (by omega)).2).trans (r24.2.2 (800 + j) (by omega)).2⟩)) (u9 st hst)
      · rw [cEq_n e142, Bool.not_false, bif_t] at y1
        rw [hT2, cEq_n e142, bif_f, cEq0_b01] at cl
        obtain ⟨I3, J3, a1, a2, a3, a4, a5, a6, a7, a8, a9⟩ := join_al g (fl := ro) (w := 11) (p := p) (op := op) (M := (I2, M.2)) (N := (J2, N.2)) (Or.inr rfl) (hd12 11 (by omega)) z5 z6 z7 (by omega)
        dsimp only at a3 a4 a8
        have s11 : X_X12_settles g [.ref 72, .int 11] (J2, N.2) = some (none, (J3, N.2)) := a2
        rw [s11, zbV_s, zbV_s] at y1
        have cl3 : zX (t_X4_readEither g (X_T g n)) 8 [some (.ref 56), some (.ref 1), some (.int (nI op)), some (.int (b01 ro)), some (.int (b01 ra)), some (.int (nI i))] [] M = zX (t_X4_readEither g (X_T g n)) 72 [some (.ref 56), some (.ref 1), some (.int (nI op)), none, some (.int 0), some (.int (nI i))] [] (I3, M.2) := by
          have q := a1 (fun M3 => zX (t_X4_readEither g (X_T g n)) 72 [some (.ref 56), some (.ref 1), some (.int (nI op)), none, some (.int 0), some (.int (nI i))] [] M3)
          rw [cl]
          cases ro
          · exact q
          · exact q
        have hT3 : I3 3 c1 = I1 3 c1 := by rw [a8, hT2]
        have fc3 : GFc s M.1 I3 := GFc_t fc2 a3 (by omega)
        have fm3 : EFm s N.1 J3 := EFm_t fm2 a4 (by omega)
        have tyB : ∀ st : List Nat, st.length ≤ 2 * op → TY J3 s (s1 + ra.toNat + ro.toNat) (flg ra 1 ++ (flg ro 1 ++ st)) (1 :: st) := by
          intro st hst
          exact TY_t (TY_x (tyA st hst) (fun j hj => a4.2.2 (800 + j) (by omega))) (a9 st)
        rw [e_X4_readEither_72, tokenC_s g (M := (I3, M.2)) a5, zbI_s] at cl3
        dsimp only at cl3
        by_cases e141 : I1 3 c1 = 141
        · -- or
          rw [cEq_s e141, Bool.not_true, bif_f] at y1
          rw [cEq_s (hT3.trans e141), bif_t] at cl3
          obtain ⟨k1, k2⟩ := stepC_s g (j := 0) (M := (I3, M.2)) (by omega) a5 (by dsimp only; rw [hT3, e141]; decide)
          obtain ⟨v1, v2⟩ := waitsM_s g (N := (J3, N.2)) (w := 11) a7 (by omega) (by omega)
          dsimp only at k2 v1 v2
          have tk3 : TKS 0 f L c1 m I3 (zu (zu J3 88 p.length (nI 11)) 72 30 (nI (p.length + 1))) := TKS_E a5 (fun k _ _ => by rw [zu_ne2 (by omega), zu_ne1 (by omega)]) (by rw [zu_ne (by omega), zu_ne (by omega)]) (by rw [zu_ne (by omega), zu_ne (by omega)])
          obtain ⟨J4, r1, r2, r3⟩ := readsM_s g (N := ((zu (zu J3 88 p.length (nI 11)) 72 30 (nI (p.length + 1))), N.2)) tk3 k1
          dsimp only at r1 r2
          have r24 : EFm (s1 + ra.toNat + ro.toNat) J3 J4 := EFm_t EFm_w (EFm_t (EFm_u (by omega)) (EFm_g (GFm_p (PFm_d r2))) (Nat.le_refl _)) (Nat.le_refl _)
          have lg4 : LG (s1 + ra.toNat + ro.toNat) (zu I3 1 4 (nI (c1 + 1))) J4 := by
            refine LGq_x a6 (zu_ne1 (by omega)) (fun j _ => zu_ne1 (by omega)) ?_ (fun j _ => ?_)
            · rw [r2.2 27 (by omega) (by omega) (by omega) (by omega), zu_ne2 (by omega), zu_ne1 (by omega)]
            · exact r24.2.2 (800 + j) (by omega)
          have ps4 : PS (flg false 10 ++ (flg true 11 ++ p)) op J4 := PS_x v2 (r2.2 30 (by omega) (by omega) (by omega) (by omega)) (r2.2 28 (by omega) (by omega) (by omega) (by omega)) (r2.1 88 (by omega))
          have tt : true.toNat = 1 := rfl
          have tf : false.toNat = 0 := rfl
          obtain ⟨ok, I', x1, x2, x3, x4⟩ := IH (c1 + 1) (s1 + ra.toNat + ro.toNat) (i + 1) true false ((zu I3 1 4 (nI (c1 + 1))), M.2) (J4, N.2) (by omega) r3 lg4 ps4 (by omega) (by omega)
          dsimp only at x1 x2 x3 x4
          have y1' : zX (t_X12_readAny g) 9 [some (.ref 72), some (.int (nI b)), some (.int 1), none] [] N = zX (t_X12_readAny g) 9 [some (.ref 72), some (.int (nI b)), some (.int 1), none] [] (J4, N.2) := by
            rw [y1, show X_X12_waits g [.ref 72, .int 11] (J3, N.2) = _ from v1, zbV_s, r1, zbV_s]
          rw [k2, zbV_s, nI_s1] at cl3
          refine ⟨ok, I', cl3.trans x1, GFc_t fc3 (GFc_t (GFc_p (PFc_u (by omega))) x2 (Nat.le_refl _)) (by omega), fun hok => ?_, fun hok => ?_⟩
          · obtain ⟨J', u1, u2, u3⟩ := x3 hok
            exact ⟨J', y1'.trans u1, EFm_t fm3 (EFm_t r24 u2 (Nat.le_refl _)) (by omega), u3⟩
          · obtain ⟨J', c', s', u1, u2, u3, u4, u5, u6, u7, u8, u9⟩ := x4 hok
            refine ⟨J', c', s', y1'.trans u1, EFm_t fm3 (EFm_t r24 u2 (Nat.le_refl _)) (by omega), u3, u4, u5, by omega, by omega, by omega, fun st hst => ?_⟩
            exact TY_t (TY_x (tyB st hst) (fun j hj => ⟨((u2.2.2 (800 + j) (by omega)).1).trans (r24.2.2 (800 + j) (by omega)).1, ((u2.2.2 (800 + j) (by omega)).2).trans (r24.2.2 (800 + j) (by omega)).2⟩)) (u9 st hst)
        · rw [cEq_n e141, Bool.not_false, bif_t] at y1
          rw [hT3, cEq_n e141, bif_f] at cl3
          exact ⟨true, I3, cl3, fc3, fun c => absurd c (by decide), fun _ => ⟨J3, c1, s1 + ra.toNat + ro.toNat, y1, fm3, a5, a6, a7, by omega, by omega, by omega, tyB⟩⟩
  induction k with
  | zero =>
    intro op c s b i ro ra p M N hp h hl hps hb hop hn hpl hs hi hk
    refine stp op c s b i ro ra p M N hp h hl hps hb hop hn hpl hs hi (fun c2 s2 i2 ro2 ra2 M2 N2 u1 u2 _ _ _ _ => ?_)
    have := u2.2.1.2.1
    omega
  | succ k ih =>
    intro op c s b i ro ra p M N hp h hl hps hb hop hn hpl hs hi hk
    exact stp op c s b i ro ra p M N hp h hl hps hb hop hn hpl hs hi (fun c2 s2 i2 ro2 ra2 M2 N2 u1 u2 u3 u4 u5 u6 => ih op c2 s2 b i2 ro2 ra2 p M2 N2 hp u2 u3 u4 hb hop hn hpl u5 u6 (by omega))
