/-! PURE ROWS: of, works -/
/-- what the courts of both hold lies within bounds -/
def RG (n d : Nat) (rn so fe : Nat → Int32) : Prop := rn 0 = nI d ∧ (∃ q, q ≤ 99 ∧ rn 3 = nI q - 50) ∧ (∃ w, w ≤ n ∧ rn 4 = nI w) ∧ ∀ t, t < n → (∃ w, w ≤ 5 ∧ rn (18 + t) = nI w) ∧ inb (rn (28 + t)) (-999) 999 = true ∧ (∃ w, w ≤ 5 ∧ rn (48 + t) = nI w) ∧ (∃ w, w ≤ 5 ∧ so t = nI w) ∧ ∃ w, w ≤ 9 ∧ fe t = nI w
theorem CRJ_t {n c r : Nat} {I J : zI} (h : CRJ n c r I J) : CRJ n c r I (zu J 72 0 0) := by
  unfold CRJ
  rw [zu_ne (show 73 ≠ 72 by omega), zu_ne (show 76 ≠ 72 by omega), zu_ne (show 77 ≠ 72 by omega)]
  exact CR_md h (zu_ne2 (by omega)) (zu_ne2 (by omega)) (zu_ne2 (by omega))
theorem LW_t {m : Nat} {wd fr wh en o k : Nat → Nat} {I J : zI} (h : LW m wd fr wh en o k I J) : LW m wd fr wh en o k I (zu J 72 0 0) := LW_of h rfl rfl rfl rfl rfl rfl (by rw [zu_ne (by omega)]) (zu_ne (by omega)) (zu_ne (by omega)) (zu_ne (by omega)) (zu_ne (by omega)) (zu_ne (by omega)) (zu_ne (by omega))
theorem zr2_self {I : zI} {a b : Nat} (h : b ≠ a) : zr (zr I a (I a)) b (I b) = I := by
  rw [zr_self, zr_self]
theorem RG_q {n d : Nat} {rn so fe : Nat → Int32} (h : RG n d rn so fe) : ∃ q, q ≤ 99 ∧ rn 3 + 50 = nI q := by
  obtain ⟨_, ⟨q, hq, e⟩, _⟩ := h
  exact ⟨q, hq, by rw [e]; exact Int32.sub_add_cancel _ _⟩
theorem of_al (g : zg) (a b : Int32) {n d m : Nat} {wd fr wh en o k : Nat → Nat} {M N : zM} (hl : LW m wd fr wh en o k M.1 N.1) (hcr : CRJ n 7 8 M.1 N.1) (hrg : RG n d (N.1 73) (N.1 76) (N.1 77)) :
    ∃ f1 s1 f2 s2 v, X_X11_of g [.ref 0, .int a, .int b] M = some (some (.int v), ((zr (zr M.1 16 f1) 15 s1), M.2)) ∧ X_X12_of g [.ref 72, .int a, .int b] N = some (some (.int v), ((zr (zr (zu N.1 72 0 0) 91 f2) 92 s2), N.2)) := by
  obtain ⟨hn, hc, hm6, a3, a4, _⟩ := CR_f hcr
  have h7 : CO 7 8 := Or.inl ⟨rfl, rfl⟩
  have idM : ∀ v : Int32, (some (some (Value.int v), M) : Option (Option Value × zM)) = some (some (.int v), ((zr (zr M.1 16 (M.1 16)) 15 (M.1 15)), M.2)) := fun v => by rw [zr2_self (by omega)]
  have idN : ∀ v : Int32, (some (some (Value.int v), (((zu N.1 72 0 0), N.2) : zM)) : Option (Option Value × zM)) = some (some (.int v), ((zr (zr (zu N.1 72 0 0) 91 (zu N.1 72 0 0 91)) 92 (zu N.1 72 0 0 92)), N.2)) := fun v => by rw [zr2_self (by omega)]
  have hcr' := CRJ_t hcr
  have hl' := LW_t hl
  rw [x_X11_of_0, x_X12_of_0, has7_s, isT_s, zbI_s, zbI_s, cEq0_b01, cEq0_b01]
  dsimp only
  rw [zu_ne2 (show 6 ≠ 0 by omega), hc, hm6]
  cases ha : hsB (nI n) a
  · exact ⟨_, _, _, _, -10000, idM _, idN _⟩
  · rw [within_s, isIn_s, zbI_s, zbI_s, cEq0_b01]
    cases hb : inb b 0 9
    · exact ⟨_, _, _, _, -10000, idM _, idN _⟩
    · obtain ⟨t, ht, rfl⟩ := hsB_ex hn ha
      obtain ⟨w, hw, rfl⟩ := inb_ex (b := 9) (by omega) hb
      have h10 : t < 10 := by omega
      have hk : w = 0 ∨ w = 1 ∨ w = 2 ∨ w = 3 ∨ w = 4 ∨ w = 5 ∨ w = 6 ∨ w = 7 ∨ w = 8 ∨ w = 9 := by omega
      have hg : ∀ k, k < 7 → X_X3_get g [.ref 7, .int (nI t), .int (nI k)] M = some (some (.int (M.1 8 (7 * t + k))), M) := fun k hk => getX g h7 hn hc ht hk rfl rfl
      rcases hk with rfl | rfl | rfl | rfl | rfl | rfl | rfl | rfl | rfl | rfl
      · refine ⟨_, _, _, _, N.1 76 t, (Eq.trans ?_ (idM _)), (Eq.trans ?_ (idN _))⟩
        · show zbI (X_X3_get g [.ref 7, .int (nI t), .int (nI 0)] M) _ = _
          rw [hg 0 (by omega), zbI_s, CR_so hcr ht]
        · show (bif zb (nI t) 10 then some (some (Value.int (zu N.1 72 0 0 76 (zx (nI t)))), (((zu N.1 72 0 0), N.2) : zM)) else none) = _
          rw [zbT h10 (by omega), bif_t, zx_nI (by omega), zu_ne (by omega)]
      · refine ⟨_, _, _, _, N.1 77 t, (Eq.trans ?_ (idM _)), (Eq.trans ?_ (idN _))⟩
        · show zbI (X_X3_get g [.ref 7, .int (nI t), .int (nI 1)] M) _ = _
          rw [hg 1 (by omega), zbI_s, CR_fe hcr ht]
        · show (bif zb (nI t) 10 then some (some (Value.int (zu N.1 72 0 0 77 (zx (nI t)))), (((zu N.1 72 0 0), N.2) : zM)) else none) = _
          rw [zbT h10 (by omega), bif_t, zx_nI (by omega), zu_ne (by omega)]
      · refine ⟨_, _, _, _, N.1 73 (8 + t), (Eq.trans ?_ (idM _)), (Eq.trans ?_ (idN _))⟩
        · show zbI (X_X3_get g [.ref 7, .int (nI t), .int (nI 2)] M) _ = _
          rw [hg 2 (by omega), zbI_s, CR_get hcr ht (k := 2) (by omega)]
        · show (bif zb (8 + nI t) 148 then some (some (Value.int (zu N.1 72 0 0 73 (zx (8 + nI t)))), (((zu N.1 72 0 0), N.2) : zM)) else none) = _
          rw [ix8, zbT (by omega) (by omega), bif_t, zx_nI (by omega), zu_ne (by omega)]
      · refine ⟨_, _, _, _, N.1 73 (18 + t) - 1, (Eq.trans ?_ (idM _)), (Eq.trans ?_ (idN _))⟩
        · show zbI (X_X3_get g [.ref 7, .int (nI t), .int (nI 3)] M) _ = _
          rw [hg 3 (by omega), zbI_s, CR_get1 hcr ht (k := 3) (by omega)]
        · show (bif zb (18 + nI t) 148 then some (some (Value.int (zu N.1 72 0 0 73 (zx (18 + nI t)) - 1)), (((zu N.1 72 0 0), N.2) : zM)) else none) = _
          rw [ix18, zbT (by omega) (by omega), bif_t, zx_nI (by omega), zu_ne (by omega)]
      · refine ⟨_, _, _, _, N.1 73 (28 + t), (Eq.trans ?_ (idM _)), (Eq.trans ?_ (idN _))⟩
        · show zbI (X_X3_get g [.ref 7, .int (nI t), .int (nI 4)] M) _ = _
          rw [hg 4 (by omega), zbI_s, CR_get hcr ht (k := 4) (by omega)]
        · show (bif zb (28 + nI t) 148 then some (some (Value.int (zu N.1 72 0 0 73 (zx (28 + nI t)))), (((zu N.1 72 0 0), N.2) : zM)) else none) = _
          rw [ix28, zbT (by omega) (by omega), bif_t, zx_nI (by omega), zu_ne (by omega)]
      · refine ⟨_, _, _, _, N.1 73 (38 + t), (Eq.trans ?_ (idM _)), (Eq.trans ?_ (idN _))⟩
        · show zbI (X_X3_get g [.ref 7, .int (nI t), .int (nI 5)] M) _ = _
          rw [hg 5 (by omega), zbI_s, CR_get hcr ht (k := 5) (by omega)]
        · show (bif zb (38 + nI t) 148 then some (some (Value.int (zu N.1 72 0 0 73 (zx (38 + nI t)))), (((zu N.1 72 0 0), N.2) : zM)) else none) = _
          rw [ix38, zbT (by omega) (by omega), bif_t, zx_nI (by omega), zu_ne (by omega)]
      · refine ⟨_, _, _, _, N.1 73 (48 + t) - 1, (Eq.trans ?_ (idM _)), (Eq.trans ?_ (idN _))⟩
        · show zbI (X_X3_get g [.ref 7, .int (nI t), .int (nI 6)] M) _ = _
          rw [hg 6 (by omega), zbI_s, CR_get1 hcr ht (k := 6) (by omega)]
        · show zbI (X_X12_saidBy g [.ref 72, .int (nI t)] (((zu N.1 72 0 0), N.2) : zM)) _ = _
          rw [x_X12_saidBy_0, ix48, zbT (by omega) (by omega), bif_t, zx_nI (by omega), zbI_s]
          dsimp only
          rw [zu_ne (show 73 ≠ 72 by omega)]
      · obtain ⟨f1, s1, f2, s2, v, _, q1, q2⟩ := tell_al g h7 (N := ((zu N.1 72 0 0), N.2)) hl' hcr' ht
        refine ⟨f1, s1, f2, s2, nI v, ?_, ?_⟩
        · show zbI (X_X10_tellBy g [.ref 6, .ref 7, .int (nI t)] M) _ = _
          rw [q1, zbI_s]
        · show zbI (X_X12_tellOf g [.ref 72, .int (nI t)] _) _ = _
          rw [q2, zbI_s]
      · obtain ⟨f1, s1, f2, s2, v, _, q1, q2⟩ := err_al g h7 (N := ((zu N.1 72 0 0), N.2)) hl' hcr' ht
        refine ⟨f1, s1, f2, s2, nI v, ?_, ?_⟩
        · show zbI (X_X10_errBy g [.ref 6, .ref 7, .int (nI t)] M) _ = _
          rw [q1, zbI_s]
        · show zbI (X_X12_errOf g [.ref 72, .int (nI t)] _) _ = _
          rw [q2, zbI_s]
      · obtain ⟨_, _, ⟨sd, hsd, es⟩, _⟩ := hrg.2.2.2 t ht
        have eC : M.1 8 (7 * t + 6) = nI sd - 1 := by rw [CR_get1 hcr ht (k := 6) (by omega)]; exact congrArg (· - 1) es
        have eM : X_X12_saidBy g [.ref 72, .int (nI t)] (((zu N.1 72 0 0), N.2) : zM) = some (some (.int (nI sd - 1)), (((zu N.1 72 0 0), N.2) : zM)) := by
          rw [x_X12_saidBy_0, ix48, zbT (by omega) (by omega), bif_t, zx_nI (by omega)]
          dsimp only
          rw [zu_ne (show 73 ≠ 72 by omega), es]
        cases sd with
        | zero =>
          refine ⟨_, _, _, _, 0, (Eq.trans ?_ (idM _)), (Eq.trans ?_ (idN _))⟩
          · show zbI (X_X3_get g [.ref 7, .int (nI t), .int (nI 6)] M) _ = _
            rw [hg 6 (by omega), zbI_s, eC, cEq_s (by decide), bif_t]
          · show zbI (X_X12_saidBy g [.ref 72, .int (nI t)] (((zu N.1 72 0 0), N.2) : zM)) _ = _
            rw [eM, zbI_s, cEq_s (by decide), bif_t]
        | succ sd =>
          rw [nI_p1] at eC eM
          obtain ⟨q, hq, eq⟩ := RG_q hrg
          obtain ⟨f1, s1, f2, s2, v, _, q1, q2⟩ := blame_al g h7 (s := sd) (q := q) (N := ((zu N.1 72 0 0), N.2)) hl' hcr' ht (by omega) hq (a4.trans eq)
          refine ⟨f1, s1, f2, s2, nI v, ?_, ?_⟩
          · show zbI (X_X3_get g [.ref 7, .int (nI t), .int (nI 6)] M) _ = _
            rw [hg 6 (by omega), zbI_s, eC, cEq_n (nI_ne1 (by omega)), bif_f, q1, zbI_s]
          · show zbI (X_X12_saidBy g [.ref 72, .int (nI t)] (((zu N.1 72 0 0), N.2) : zM)) _ = _
            rw [eM, zbI_s, cEq_n (nI_ne1 (by omega)), bif_f, eM, zbI_s, q2, zbI_s]
theorem works_al (g : zg) {m d n D : Nat} {la : Nat → Nat} {mv : Nat → Int32} {M N : zM} (h : RO m la mv M.1 N.1) (hn : n ≤ 99) (hd : d ≤ 9999) (hc : M.1 7 10 = nI d) (hc' : N.1 73 0 = nI d) (hD : 1 ≤ D ∧ D ≤ 20) (a2 a4 : Int32) (f : Nat) : ∀ (i tg ft : Nat) (x fi : Int32), i + f = n → tg ≤ i → ∃ v, zX (t_X11_works g) 65 [some (.ref 0), some (.int (nI D)), some (.int a2), some (.int (nI n)), some (.int a4), some (.int x), some (.int (nI tg)), some (.int (nI ft)), some (.int fi), some (.int (nI (i + 1)))] [] M = some (some (.int v), M) ∧ zX (t_X12_works g) 68 [some (.ref 72), some (.int (nI D)), some (.int a2), some (.int (nI n)), some (.int a4), some (.int (nI tg)), some (.int (nI ft)), some (.int fi), some (.int x), some (.int (nI (i + 1)))] [] N = some (some (.int v), N) := by
  induction f with
  | zero =>
    intro i tg ft x fi hi ht
    refine ⟨bif cEq0 a4 then fi else nI ft, ?_, ?_⟩
    · rw [e_X11_works_65, cGt_nI (by omega) (by omega), decide_eq_true (by omega), bif_t, bif_push]
    · rw [e_X12_works_68, cGt_nI (by omega) (by omega), decide_eq_true (by omega), bif_t, bif_push]
  | succ f ih =>
    intro i tg ft x fi hi ht
    have e1 : nI (d + (i + 1)) - 1 = nI (d + i) := nI_p1 (d + i)
    rw [e_X11_works_65, cGt_nI (by omega) (by omega), decide_eq_false (by omega), bif_f, hc, nI_ad2, e1, behindG_s g h (by omega), zbI_s]
    rw [e_X12_works_68, cGt_nI (by omega) (by omega), decide_eq_false (by omega), bif_f, hc', nI_ad2, e1, moveM_r g h (by omega), zbI_s, held_s, zbI_s, x_X12_kindOf_0, zbI_s]
    generalize hld (x + mvA la mv m (d + i)) 0 99 = y
    cases cLt (y / 20) a2
    · rw [bif_f, bif_f, nI_s1, cGt0_nI (by omega), decide_eq_true (by omega), bif_t, e_X12_works_133, nI_s1, nI_s1]
      cases cEq (nI (tg + 1)) (nI D)
      · rw [bif_f, bif_f]
        exact ih (i + 1) (tg + 1) (ft + 1) y fi (by omega) (by omega)
      · rw [bif_t, bif_t]
        cases cEq fi (-1)
        · rw [bif_f, bif_f]
          exact ih (i + 1) (tg + 1) (ft + 1) y fi (by omega) (by omega)
        · rw [bif_t, bif_t]
          exact ih (i + 1) (tg + 1) (ft + 1) y _ (by omega) (by omega)
    · have e0 : cEq 0 (nI D) = false := (cEq_nI (a := 0) (b := D) (by omega) (by omega)).trans (decide_eq_false (by omega))
      rw [bif_t, bif_t, e_X12_works_133, e0, bif_f, Int32.add_zero, nI_s1]
      exact ih (i + 1) 0 ft y fi (by omega) (by omega)
/-- works answers alike -/
theorem work_al (g : zg) (a1 a2 a3 a4 : Int32) {m d n : Nat} {la : Nat → Nat} {mv : Nat → Int32} {M N : zM} (h : RO m la mv M.1 N.1) (hd : d ≤ 9999) (hcr : CRJ n 7 8 M.1 N.1) (hc' : N.1 73 0 = nI d) : ∃ v, X_X11_works g [.ref 0, .int a1, .int a2, .int a3, .int a4] M = some (some (.int v), M) ∧ X_X12_works g [.ref 72, .int a1, .int a2, .int a3, .int a4] N = some (some (.int v), ((zu N.1 72 0 0), N.2)) := by
  obtain ⟨_, _, _, _, a4', _, _, _, _, _, a10, _⟩ := CR_f hcr
  rw [x_X11_works_0, x_X12_works_0, within_s, isIn_s, zbI_s, zbI_s, cEq0_b01]
  cases h1 : inb a1 1 20
  · exact ⟨-1, rfl, rfl⟩
  · rw [within_s, isIn_s, zbI_s, zbI_s, cEq0_b01]
    cases h2 : inb a2 0 4
    · exact ⟨-1, rfl, rfl⟩
    · rw [within_s, isIn_s, zbI_s, zbI_s, cEq0_b01]
      cases h3 : inb a3 1 99
      · exact ⟨-1, rfl, rfl⟩
      · rw [within_s, isIn_s, zbI_s, zbI_s, cEq0_b01]
        cases h4 : inb a4 0 1
        · exact ⟨-1, rfl, rfl⟩
        · obtain ⟨D, hD, hD', rfl⟩ := inb1_ex (b := 20) (by omega) rfl h1
          obtain ⟨nn, hn, hn', rfl⟩ := inb1_ex (b := 99) (by omega) rfl h3
          have h' : RO m la mv M.1 (zu N.1 72 0 0) := RO_of h rfl rfl rfl (zu_ne2 (by omega)) (zu_ne (by omega))
          obtain ⟨v, q1, q2⟩ := works_al g (N := ((zu N.1 72 0 0), N.2)) h' hn' hd (a10.trans hc') (by dsimp only; rw [zu_ne (by omega)]; exact hc') ⟨hD, hD'⟩ a2 a4 nn 0 0 0 (M.1 7 4) (-1) (by omega) (by omega)
          refine ⟨v, q1, ?_⟩
          rw [Bool.not_true, bif_f, bif_f, bif_f, bif_f, x_X12_glass_0, zbI_s]
          dsimp only
          rw [zu_ne (show 73 ≠ 72 by omega), ← a4']
          exact q2
