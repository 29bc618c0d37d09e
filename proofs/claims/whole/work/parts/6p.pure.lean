/-! PURE ROWS: whom, how much, on both sides -/
def QWc (n : Nat) (I I' : zI) : Prop := (∀ a, a ≠ 1 → a ≠ 70 → a ≠ 71 → I' a = I a) ∧ (∀ k, k ≠ n → I' 70 k = I 70 k ∧ I' 71 k = I 71 k) ∧ ∀ k, k ≠ 4 → k ≠ 6 → k ≠ 7 → I' 1 k = I 1 k
def QWm (n : Nat) (J J' : zI) : Prop := (∀ a, a ≠ 72 → a ≠ 90 → J' a = J a) ∧ (∀ k, k ≠ 64 + 4 * n + 2 → k ≠ 64 + 4 * n + 3 → J' 90 k = J 90 k) ∧ ∀ k, k ≠ 14 → k ≠ 15 → k ≠ 16 → k ≠ 17 → k ≠ 31 → k ≠ 32 → J' 72 k = J 72 k
theorem QWc_p {n : Nat} {I I' : zI} (h : PFc I I') : QWc n I I' := ⟨fun a u _ _ => h.1 a u, fun k _ => ⟨by rw [h.1 70 (by omega)], by rw [h.1 71 (by omega)]⟩, h.2⟩
theorem QWm_p {n : Nat} {J J' : zI} (h : PFm J J') : QWm n J J' := ⟨fun a u _ => h.1 a u, fun k _ _ => by rw [h.1 90 (by omega)], h.2⟩
theorem QWc_t {n : Nat} {I I' I'' : zI} (h : QWc n I I') (h' : QWc n I' I'') : QWc n I I'' := ⟨fun a u1 u2 u3 => (h'.1 a u1 u2 u3).trans (h.1 a u1 u2 u3), fun k hk => ⟨(h'.2.1 k hk).1.trans (h.2.1 k hk).1, (h'.2.1 k hk).2.trans (h.2.1 k hk).2⟩, fun k u1 u2 u3 => (h'.2.2 k u1 u2 u3).trans (h.2.2 k u1 u2 u3)⟩
theorem QWm_t {n : Nat} {J J' J'' : zI} (h : QWm n J J') (h' : QWm n J' J'') : QWm n J J'' := ⟨fun a u1 u2 => (h'.1 a u1 u2).trans (h.1 a u1 u2), fun k u1 u2 => (h'.2.1 k u1 u2).trans (h.2.1 k u1 u2), fun k u1 u2 u3 u4 u5 u6 => (h'.2.2 k u1 u2 u3 u4 u5 u6).trans (h.2.2 k u1 u2 u3 u4 u5 u6)⟩
theorem QWc_u {n a : Nat} {I : zI} {v : Int32} (ha : a = 70 ∨ a = 71) : QWc n I (zu I a n v) := ⟨fun b _ u1 u2 => zu_ne (by omega), fun k hk => by
  rcases ha with rfl | rfl
  · exact ⟨zu_ne2 hk, zu_ne1 (by omega)⟩
  · exact ⟨zu_ne1 (by omega), zu_ne2 hk⟩, fun k _ _ _ => zu_ne1 (by omega)⟩
theorem QWm_u {n k : Nat} {J : zI} {v : Int32} (hk : k = 64 + 4 * n + 2 ∨ k = 64 + 4 * n + 3) : QWm n J (zu J 90 k v) := ⟨fun a _ u => zu_ne u, fun i u1 u2 => zu_ne2 (by omega), fun i _ _ _ _ _ _ => zu_ne1 (by omega)⟩
/-- the amount that belongs to the deed -/
def amX (i : Nat) (hi : Int32) : Prop := (i = 1 ∧ hi = 99) ∨ (i = 2 ∧ hi = 4)
theorem whom_al (g : zg) {f : Nat → Int32} {L c m n t i : Nat} {M N : zM} (h : TKS 2 f L c m M.1 N.1) (ht : t ≤ 10) (hn : n < 16) (hi : i ≤ 4) (h4 : M.1 67 4 = nI n) (h69 : M.1 69 n = nI i) : ∃ ok I' J', X_X0_readWhom g [.ref 67, .ref 1, .int (nI t)] M = some (some (.int (b01 ok)), (I', M.2)) ∧ (zbI (X_X12_readNumber g [.ref 72, .int 0, .int (nI t - 1)] N) (fun x5 M5 => zX (t_X12_readDeed g) 84 [some (.ref 72), some (.int (nI (64 + 4 * n))), some (.int (nI i))] [.int x5, .int (nI (64 + 4 * n) + 2), .ref 90] M5)) = (bif ok then zbI (X_X12_readMark g [.ref 72, .int 59] (J', N.2)) (fun x2 M2 => some (some (.int x2), M2)) else some (some (.int (-1)), (J', N.2))) ∧ QWc n M.1 I' ∧ QWm n N.1 J' ∧ (ok = false → FL I' J') ∧ (ok = true → ∃ c' w u, TKS 2 f L c' m I' J' ∧ I' 70 n = nI w ∧ J' 90 (64 + 4 * n + 2) = nI w ∧ w < t ∧ I' 71 n = nI u ∧ J' 90 (64 + 4 * n + 3) = nI u ∧ (i = 1 → inb (nI u) 0 99 = true) ∧ (i = 2 → inb (nI u) 0 4 = true)) := by
  obtain ⟨v, I1, J1, q1, q2, q3, q4, q5⟩ := num_al g (by omega) h 0 (nI t - 1)
  have e4 : I1 67 4 = nI n := by rw [q3.1 67 (by omega)]; exact h4
  have e69 : I1 69 n = nI i := by rw [q3.1 69 (by omega)]; exact h69
  have a2 : nI (64 + 4 * n) + 2 = nI (64 + 4 * n + 2) := by rw [show (2 : Int32) = nI 2 from rfl, nI_ad2]
  have a3 : nI (64 + 4 * n) + 3 = nI (64 + 4 * n + 3) := by rw [show (3 : Int32) = nI 3 from rfl, nI_ad2]
  have c1 : cEq (nI i) 1 = decide (i = 1) := by rw [show (1 : Int32) = nI 1 from rfl, cEq_nI (by omega) (by omega)]
  have c2 : cEq (nI i) 2 = decide (i = 2) := by rw [show (2 : Int32) = nI 2 from rfl, cEq_nI (by omega) (by omega)]
  rcases q5 with ⟨hv, q5⟩ | ⟨w, w1, w2, w3, q5⟩
  · subst hv
    refine ⟨false, (zu I1 70 n (-1)), (zu J1 90 (64 + 4 * n + 2) (-1)), ?_, ?_, QWc_t (QWc_p q3) (QWc_u (by omega)), QWm_t (QWm_p q4) (QWm_u (by omega)), fun _ => FL_90 (FL_Ix q5 (by omega)), fun c => absurd c (by decide)⟩
    · rw [x_X0_readWhom_0, q1, zbI_s]
      dsimp only
      rw [h4, e4, zb_nI (by omega), decide_eq_true hn, zx_nI (by omega), zu_eq]
      simp only [bif_t]
      rw [show cEq (-1 : Int32) (-1) = true from cEq_s rfl, bif_t]
      rfl
    · rw [q2, zbI_s, e_X12_readDeed_84, a2, zb_nI (by omega), decide_eq_true (by omega), bif_t, bif_t, zx_nI (by omega)]
      dsimp only
      rw [zu_eq, show cEq (-1 : Int32) (-1) = true from cEq_s rfl, bif_t]
      rfl
  · subst w2
    obtain ⟨w', hw', ew⟩ := inb_cnt (by omega) w3
    have hwt : w < t := by
      have := nI_ij (by omega) (by omega) ew
      omega
    have tk : TKS 2 f L (c + 1) m (zu I1 70 n (nI w)) (zu J1 90 (64 + 4 * n + 2) (nI w)) := TKS_J90 (TKS_Ix q5 (by omega))
    have cw : X_X0_readWhom g [.ref 67, .ref 1, .int (nI t)] M = (bif decide (i = 1) then (zbI (X_X9_expectNumber g [.ref 1, .int 0, .int 99] ((zu I1 70 n (nI w)), M.2)) (fun x2 M2 => (bif zb (nI n) 16 then (bif zb (M2.1 67 4) 16 then (bif cEq ((zu M2.1 71 (zx (nI n)) x2) 71 (zx (M2.1 67 4))) (-1) then some (some (.int 0), ((zu M2.1 71 (zx (nI n)) x2), M2.2)) else some (some (.int 1), ((zu M2.1 71 (zx (nI n)) x2), M2.2))) else none) else none))) else bif decide (i = 2) then (zbI (X_X9_expectNumber g [.ref 1, .int 0, .int 4] ((zu I1 70 n (nI w)), M.2)) (fun x3 M3 => (bif zb (nI n) 16 then (bif zb (M3.1 67 4) 16 then (bif cEq ((zu M3.1 71 (zx (nI n)) x3) 71 (zx (M3.1 67 4))) (-1) then some (some (.int 0), ((zu M3.1 71 (zx (nI n)) x3), M3.2)) else some (some (.int 1), ((zu M3.1 71 (zx (nI n)) x3), M3.2))) else none) else none))) else some (some (.int 1), ((zu (zu I1 70 n (nI w)) 71 n 0), M.2))) := by
      rw [x_X0_readWhom_0, q1, zbI_s]
      dsimp only
      rw [h4, e4, zb_nI (n := n) (by omega), decide_eq_true hn, zx_nI (n := n) (by omega), zu_eq, e69, c1, c2]
      simp only [bif_t]
      rw [nI_nm1 w1, bif_f, zu_eq, show cEq (0 : Int32) (-1) = false from by decide, bif_f]
    have rw84 : (zbI (X_X12_readNumber g [.ref 72, .int 0, .int (nI t - 1)] N) (fun x5 M5 => zX (t_X12_readDeed g) 84 [some (.ref 72), some (.int (nI (64 + 4 * n))), some (.int (nI i))] [.int x5, .int (nI (64 + 4 * n) + 2), .ref 90] M5)) = (bif decide (i = 1) then (zbI (X_X12_readNumber g [.ref 72, .int 0, .int 99] ((zu J1 90 (64 + 4 * n + 2) (nI w)), N.2)) (fun x1 M1 => (bif cEq x1 (-1) then some (some (.int (-1)), ((zu M1.1 90 (64 + 4 * n + 3) x1), M1.2)) else (zbI (X_X12_readMark g [.ref 72, .int 59] ((zu M1.1 90 (64 + 4 * n + 3) x1), M1.2)) (fun x2 M2 => some (some (.int x2), M2)))))) else bif decide (i = 2) then (zbI (X_X12_readNumber g [.ref 72, .int 0, .int 4] ((zu J1 90 (64 + 4 * n + 2) (nI w)), N.2)) (fun x1 M1 => (bif cEq x1 (-1) then some (some (.int (-1)), ((zu M1.1 90 (64 + 4 * n + 3) x1), M1.2)) else (zbI (X_X12_readMark g [.ref 72, .int 59] ((zu M1.1 90 (64 + 4 * n + 3) x1), M1.2)) (fun x2 M2 => some (some (.int x2), M2)))))) else zbI (X_X12_readMark g [.ref 72, .int 59] ((zu (zu J1 90 (64 + 4 * n + 2) (nI w)) 90 (64 + 4 * n + 3) 0), N.2)) (fun x2 M2 => some (some (.int x2), M2))) := by
      rw [q2, zbI_s, e_X12_readDeed_84, a2, a3, zb_nI (n := 64 + 4 * n + 2) (by omega), decide_eq_true (p := 64 + 4 * n + 2 < 128) (by omega), zb_nI (n := 64 + 4 * n + 3) (by omega), decide_eq_true (p := 64 + 4 * n + 3 < 128) (by omega), zx_nI (n := 64 + 4 * n + 2) (by omega), zx_nI (n := 64 + 4 * n + 3) (by omega), c1, c2]
      simp only [bif_t, zu_eq]
      rw [nI_nm1 w1, bif_f, show cEq (0 : Int32) (-1) = false from by decide, bif_f]
    have am : ∀ hh : Int32, ∃ ok I' J', (zbI (X_X9_expectNumber g [.ref 1, .int 0, .int hh] ((zu I1 70 n (nI w)), M.2)) (fun x2 M2 => (bif zb (nI n) 16 then (bif zb (M2.1 67 4) 16 then (bif cEq ((zu M2.1 71 (zx (nI n)) x2) 71 (zx (M2.1 67 4))) (-1) then some (some (Value.int 0), ((zu M2.1 71 (zx (nI n)) x2), M2.2)) else some (some (Value.int 1), ((zu M2.1 71 (zx (nI n)) x2), M2.2))) else none) else none))) = some (some (Value.int (b01 ok)), (I', M.2)) ∧ (zbI (X_X12_readNumber g [.ref 72, .int 0, .int hh] ((zu J1 90 (64 + 4 * n + 2) (nI w)), N.2)) (fun x1 M1 => (bif cEq x1 (-1) then some (some (Value.int (-1)), ((zu M1.1 90 (64 + 4 * n + 3) x1), M1.2)) else (zbI (X_X12_readMark g [.ref 72, .int 59] ((zu M1.1 90 (64 + 4 * n + 3) x1), M1.2)) (fun x2 M2 => some (some (Value.int x2), M2)))))) = (bif ok then zbI (X_X12_readMark g [.ref 72, .int 59] (J', N.2)) (fun x2 M2 => some (some (Value.int x2), M2)) else some (some (Value.int (-1)), (J', N.2))) ∧ QWc n M.1 I' ∧ QWm n N.1 J' ∧ (ok = false → FL I' J') ∧ (ok = true → ∃ c' u, TKS 2 f L c' m I' J' ∧ I' 70 n = nI w ∧ J' 90 (64 + 4 * n + 2) = nI w ∧ I' 71 n = nI u ∧ J' 90 (64 + 4 * n + 3) = nI u ∧ inb (nI u) 0 hh = true) := by
      intro hh
      obtain ⟨v, I2, J2, p1, p2, p3, p4, p5⟩ := num_al g (M := ((zu I1 70 n (nI w)), M.2)) (N := ((zu J1 90 (64 + 4 * n + 2) (nI w)), N.2)) (by omega) tk 0 hh
      dsimp only at p1 p2 p3 p4
      have d4 : I2 67 4 = nI n := by rw [p3.1 67 (by omega), zu_ne1 (by omega)]; exact e4
      have qc : QWc n M.1 (zu I2 71 n v) := QWc_t (QWc_p q3) (QWc_t (QWc_u (by omega)) (QWc_t (QWc_p p3) (QWc_u (by omega))))
      have qm : QWm n N.1 (zu J2 90 (64 + 4 * n + 3) v) := QWm_t (QWm_p q4) (QWm_t (QWm_u (by omega)) (QWm_t (QWm_p p4) (QWm_u (by omega))))
      rw [p1, zbI_s, p2, zbI_s, zb_nI (n := n) (by omega), decide_eq_true hn, zx_nI (n := n) (by omega), bif_t]
      dsimp only
      rw [d4, zb_nI (n := n) (by omega), decide_eq_true hn, zx_nI (n := n) (by omega), bif_t, zu_eq]
      rcases p5 with ⟨hv, p5⟩ | ⟨u, u1, u2, u3, p5⟩
      · subst hv
        refine ⟨false, _, _, ?_, ?_, qc, qm, fun _ => FL_90 (FL_Ix p5 (by omega)), fun c => absurd c (by decide)⟩
        · rw [show cEq (-1 : Int32) (-1) = true from cEq_s rfl, bif_t]
          rfl
        · rw [show cEq (-1 : Int32) (-1) = true from cEq_s rfl, bif_t]
          rfl
      · subst u2
        refine ⟨true, _, _, ?_, ?_, qc, qm, fun c => absurd c (by decide), fun _ => ⟨c + 1 + 1, u, TKS_J90 (TKS_Ix p5 (by omega)), ?_, ?_, zu_eq, zu_eq, u3⟩⟩
        · rw [nI_nm1 u1, bif_f]
          rfl
        · rw [nI_nm1 u1, bif_f]
          rfl
        · rw [zu_ne1 (by omega), p3.1 70 (by omega), zu_eq]
        · rw [zu_ne2 (by omega), p4.1 90 (by omega), zu_eq]
    by_cases i1 : i = 1
    · rw [decide_eq_true i1, bif_t] at cw rw84
      obtain ⟨ok, I', J', y1, y2, y3, y4, y5, y6⟩ := am 99
      refine ⟨ok, I', J', cw.trans y1, rw84.trans y2, y3, y4, y5, fun hok => ?_⟩
      obtain ⟨c', u, z1, z2, z3, z4, z5, z6⟩ := y6 hok
      exact ⟨c', w, u, z1, z2, z3, hwt, z4, z5, fun _ => z6, fun e => absurd e (by omega)⟩
    · by_cases i2 : i = 2
      · rw [decide_eq_false i1, bif_f, decide_eq_true i2, bif_t] at cw rw84
        obtain ⟨ok, I', J', y1, y2, y3, y4, y5, y6⟩ := am 4
        refine ⟨ok, I', J', cw.trans y1, rw84.trans y2, y3, y4, y5, fun hok => ?_⟩
        obtain ⟨c', u, z1, z2, z3, z4, z5, z6⟩ := y6 hok
        exact ⟨c', w, u, z1, z2, z3, hwt, z4, z5, fun e => absurd e i1, fun _ => z6⟩
      · rw [decide_eq_false i1, bif_f, decide_eq_false i2, bif_f] at cw rw84
        refine ⟨true, _, _, cw, rw84, QWc_t (QWc_p q3) (QWc_t (QWc_u (by omega)) (QWc_u (by omega))), QWm_t (QWm_p q4) (QWm_t (QWm_u (by omega)) (QWm_u (by omega))), fun c => absurd c (by decide), fun _ => ⟨c + 1, w, 0, TKS_J90 (TKS_Ix tk (by omega)), ?_, ?_, hwt, zu_eq, zu_eq, fun e => absurd e i1, fun e => absurd e i2⟩⟩
        · rw [zu_ne1 (by omega), zu_eq]
        · rw [zu_ne2 (by omega), zu_eq]
