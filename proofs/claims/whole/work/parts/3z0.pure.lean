/-! PURE ROWS: a day on both sides -/
theorem ST_day {b : Bool} {c r n d : Nat} (hcr : CO c r) {I J : zI} (h : PR b c r n d I J) : PR b c r n (d + 1) (zu I c 10 (I c 10 + 1)) (zu J 73 0 (J 73 0 + 1)) := by
  obtain ⟨e1, e2⟩ := PR_d h
  obtain ⟨p1, p2, p3, p4, l, hl, p5, p6⟩ := h
  have hc1 : r ≠ c := by rcases hcr with ⟨rfl, rfl⟩ | ⟨rfl, rfl⟩ <;> omega
  have hc2 : 26 ≠ c := by rcases hcr with ⟨rfl, rfl⟩ | ⟨rfl, rfl⟩ <;> omega
  rw [e1, e2, nI_s1]
  refine ⟨?_, ?_, ?_, ?_, l, hl, ?_, ?_⟩
  · unfold CRJ
    rw [zu_ne hc1, zu_upd, zu_upd, zu_ne (show 72 ≠ 73 by omega), zu_ne (show 76 ≠ 73 by omega), zu_ne (show 77 ≠ 73 by omega)]
    exact CR_fld p1 (Or.inr (Or.inr (Or.inr (Or.inr (Or.inr (Or.inl ⟨rfl, rfl, rfl⟩))))))
  · rw [zu_upd, zu_ne (show 76 ≠ 73 by omega), zu_ne (show 77 ≠ 73 by omega)]
    obtain ⟨b0, b3, b4, bt⟩ := p2
    have hn := p1.1
    refine ⟨upd1_eq, by rw [upd1_ne (by omega)]; exact b3, by rw [upd1_ne (by omega)]; exact b4, ?_⟩
    intro t ht
    rw [upd1_ne (show 18 + t ≠ 0 by omega), upd1_ne (show 28 + t ≠ 0 by omega), upd1_ne (show 48 + t ≠ 0 by omega)]
    exact bt t ht
  · rw [zu_ne2 (by omega)]; exact p3
  · rw [zu_ne (show 72 ≠ 73 by omega)]; exact p4
  · rw [zu_ne2 (by omega)]; exact p5
  · rw [zu_ne hc2, zu_ne (show 78 ≠ 73 by omega)]; exact p6
theorem pass_al (g : zg) {b : Bool} {c r n d m mr ma : Nat} {wd fr wh en o k : Nat → Nat} {la : Nat → Nat} {mv : Nat → Int32} {dy wt wm mu : Nat → Nat} (hcr : CO c r) {M N : zM} (h : PR b c r n d M.1 N.1) (hl : LW m wd fr wh en o k M.1 N.1) (ho : RO mr la mv M.1 N.1) (ha : AG ma n dy wt wm mu M.1 N.1) (hd : d < 100000) (h7 : ∃ k, k ≤ 90 ∧ N.1 73 7 = nI k) (h12 : b = true → ∃ rr, rr < 1000000 ∧ M.1 c 12 = nI rr) : ∃ (fo : Option Nat) (I' J' : zI), (∀ u, fo = some u → u < n) ∧ X_X10_pass g [.ref 6, .ref c] M = some (some (.int (bI fo)), (I', M.2)) ∧ X_X12_goesBy g [.ref 72] N = some (some (.int (b01 fo.isSome)), (J', N.2)) ∧ PR b c r n (d + 1) I' J' ∧ WF c r M.1 I' ∧ WG N.1 J' ∧ (∀ k, J' 72 k = fel N.1 d fo 72 k) ∧ RC b c M.1 N.1 I' J' := by
  obtain ⟨I1, J1, a1, a2, S1⟩ := agenda_al g (dy := dy) (wt := wt) (wm := wm) (mu := mu) hcr ma 0 M N h ha (by omega)
  obtain ⟨an, I2, J2, t1, t2, S2, han⟩ := tellall_al g hcr n 0 false (I1, M.2) (J1, N.2) S1.1 (LW_st hcr hl S1.2.1 S1.2.2) (by omega) ⟨fun e => absurd e (by decide), fun ⟨t, ht, _⟩ => absurd ht (by omega)⟩
  have S12 := ST_tr S1 S2
  obtain ⟨I3, I4, J4, c1, c2, c3, S4, c4⟩ := come_al g hcr (M := (I2, M.2)) (N := (J2, N.2)) S2.1 (RO_st hcr ho S12.2.1 S12.2.2) hd
  have S14 := ST_tr S12 S4
  have han4 : an = true ↔ ∃ t, t < n ∧ ¬ J4 73 (48 + t) = 0 := by
    rw [han]
    constructor
    · rintro ⟨t, ht, hx⟩; exact ⟨t, ht, by rw [c4 _ (by omega)]; exact hx⟩
    · rintro ⟨t, ht, hx⟩; exact ⟨t, ht, by rw [c4 _ (by omega)] at hx; exact hx⟩
  obtain ⟨I5, J5, r1, r2, P5, W5, G5, r3, RC5⟩ := record_al g hcr (M := (I4, M.2)) (N := (J4, N.2)) an S14.1 han4 (by obtain ⟨k, hk, e⟩ := h7; exact ⟨k, hk, (S14.2.2.2.2.1 7 (by omega)).trans e⟩) (by intro hb; obtain ⟨rr, hr, e⟩ := h12 hb; exact ⟨rr, hr, (S14.2.1.2 12 (by omega)).trans e⟩)
  have W15 := WF_tr (WF_P S14.2.1) W5
  have G15 := WG_tr (WG_Q S14.2.2) G5
  obtain ⟨I6, J6, j1, j2, S6⟩ := judge_al g hcr n 0 (-1) 0 (I5, M.2) (J5, N.2) P5 (LW_w hcr hl W15 G15) (by omega)
  obtain ⟨I7, J7, f1, f2, S7⟩ := flood_al g hcr (M := (I6, M.2)) (N := (J6, N.2)) S6.1
  obtain ⟨fo, I8, J8, hfo, l1, l2, S8⟩ := fall_al g hcr (M := (I7, M.2)) (N := (J7, N.2)) S7.1
  obtain ⟨I9, J9, n1, n2, S9⟩ := name_al g hcr (M := (I8, M.2)) (N := ((fel J8 d fo), N.2)) (PR_fel fo S8.1) fo.isSome
  have P10 := ST_day hcr S9.1
  refine ⟨fo, zu I9 c 10 (I9 c 10 + 1), zu J9 73 0 (J9 73 0 + 1), hfo, ?_, ?_, P10, ?_, ?_, ?_, ?_⟩
  · rw [k_X10_pass_0 g hcr, k_X10_followAgenda_0 g hcr, show zX (t_X10_followAgenda g) 2 [some (.ref 6), some (.ref c), some (.int 0)] [] M = _ from a1, zbV_s, k_X10_tellAll_0 g hcr, show zX (t_X10_tellAll g) 4 [some (.ref 6), some (.ref c), some (.int 0), some (.int 0), none] [] (I1, M.2) = _ from t1, zbI_s, c1, zbV_s, kindX g hcr, zbI_s]
    dsimp only
    rw [c2, zbV_s]
    have tail : ∀ X : Option (Option Value × zM), X = some (none, (I5, M.2)) → zbV X (fun M14 => (zbV (X_X10_blameAll g [.ref 6, .ref c] M14) (fun M15 => (zbV (X_X10_floodAny g [.ref 6, .ref c] M15) (fun M16 => (zbI (X_X10_fallAny g [.ref 6, .ref c] M16) (fun x17 M17 => (zbV (X_X10_nameAny g [.ref 6, .ref c] M17) (fun M18 => (some (some (Value.int x17), ((zu M18.1 c 10 ((M18.1 c 10) + 1)), M18.2)) : Option (Option Value × zM))))))))))) = some (some (.int (bI fo)), ((zu I9 c 10 (I9 c 10 + 1)), M.2)) := by
      intro X hX
      rw [hX, zbV_s, k_X10_blameAll_0 g hcr, show zX (t_X10_blameAll g) 7 [some (.ref 6), some (.ref c), some (.int (-1)), some (.int 0), some (.int 0), none] [] (I5, M.2) = _ from j1, zbV_s, f1, zbV_s, l1, zbI_s, n1, zbV_s]
    cases hb1 : cEq0 (b01 an)
    · rw [hb1] at r1
      dsimp only at r1 ⊢
      rw [bif_f] at r1 ⊢
      cases hb2 : cEq0 (I4 c 0)
      · rw [hb2, bif_f] at r1
        rw [bif_f]
        exact tail _ r1
      · rw [hb2, bif_t] at r1
        rw [bif_t]
        exact tail _ r1
    · rw [hb1, bif_t] at r1
      rw [bif_t]
      exact tail _ r1
  · rw [x_X12_goesBy_0, show zX (t_X12_goesBy g) 2 [some (.ref 72), some (.int 0)] [] N = _ from a2, show zX (t_X12_goesBy g) 42 [some (.ref 72), some (.int 0)] [] (J1, N.2) = _ from t2, e_X12_goesBy_42]
    dsimp only
    rw [(PR_n S2.1).2.2, cLtF (Nat.le_refl n) (by have := (PR_n S2.1).1; omega), bif_f, c3, zbV_s, r2, zbV_s, x_X12_judges_0, show zX (t_X12_judges g) 6 [some (.ref 72), some (.int (-1)), some (.int 0), some (.int 0), none, none] [] (J5, N.2) = _ from j2, zbV_s, f2, zbV_s, l2]
    dsimp only at n2 ⊢
    rw [n2, zbI_s, cEq0_b01]
    cases fo.isSome <;> rfl
  · refine WF_tr W15 (WF_tr (WF_P (PF_tr (PF_tr (PF_tr S6.2.1 S7.2.1) S8.2.1) S9.2.1)) ⟨fun a b1 _ _ _ _ _ _ => zu_ne b1, fun k hk => by rw [zu_ne2 (by omega)]⟩)
  · refine WG_tr G15 (WG_tr (WG_Q (QF_tr (QF_tr S6.2.2 S7.2.2) S8.2.2)) (WG_tr ⟨fun a b1 _ _ _ _ => fel_ne b1 fo, fun k u1 u2 => fel_ne2 u1 u2 fo, LN_eq (by rw [fel_ne (by omega)])⟩ (WG_tr (WG_Q S9.2.2) ⟨fun a _ b2 _ _ _ => zu_ne b2, fun k _ _ => by rw [zu_ne (show 72 ≠ 73 by omega)], LN_eq (zu_ne2 (by omega))⟩)))
  · intro k
    rw [zu_ne (show 72 ≠ 73 by omega), S9.2.2.2.1 k]
    have e8 : ∀ k, J8 72 k = N.1 72 k := by
      intro k
      exact ((S8.2.2.2.1 k).trans ((S7.2.2.2.1 k).trans (S6.2.2.2.1 k))).trans ((r3 k).trans (S14.2.2.2.1 k))
    have e8' : J8 72 = N.1 72 := funext e8
    cases fo with
    | none => exact e8 k
    | some u =>
      show fel J8 d (some u) 72 k = _
      unfold fel
      rw [e8']
      cases cEq (N.1 72 41) (-1)
      · exact e8 k
      · show zu (zu J8 72 41 (nI u)) 72 42 (nI d) 72 k = zu (zu N.1 72 41 (nI u)) 72 42 (nI d) 72 k
        rw [zu_upd, zu_upd, zu_upd, zu_upd, e8']
  · have S69 := PF_tr (PF_tr (PF_tr S6.2.1 S7.2.1) S8.2.1) S9.2.1
    have hc : c ≠ 28 ∧ c ≠ 29 ∧ r ≠ 28 ∧ r ≠ 29 := by rcases hcr with ⟨rfl, rfl⟩ | ⟨rfl, rfl⟩ <;> omega
    have i28 : zu I9 c 10 (I9 c 10 + 1) 28 = I5 28 := (zu_ne (by omega)).trans (S69.1 28 (by omega) (by omega) (by omega) (by omega) (by omega))
    have i29 : zu I9 c 10 (I9 c 10 + 1) 29 = I5 29 := (zu_ne (by omega)).trans (S69.1 29 (by omega) (by omega) (by omega) (by omega) (by omega))
    have i12 : zu I9 c 10 (I9 c 10 + 1) c 12 = I5 c 12 := (zu_ne2 (by omega)).trans (S69.2 12 (by omega))
    have o28 : I4 28 = M.1 28 := S14.2.1.1 28 (by omega) (by omega) (by omega) (by omega) (by omega)
    have o29 : I4 29 = M.1 29 := S14.2.1.1 29 (by omega) (by omega) (by omega) (by omega) (by omega)
    have o12 : I4 c 12 = M.1 c 12 := S14.2.1.2 12 (by omega)
    have oJ : ∀ k, k = 7 ∨ 58 ≤ k → J4 73 k = N.1 73 k := S14.2.2.2.2.1
    have nJ : ∀ k, k = 7 ∨ 58 ≤ k → zu J9 73 0 (J9 73 0 + 1) 73 k = J5 73 k := by
      intro k hk
      rw [zu_ne2 (by omega), S9.2.2.2.2.1 k hk]
      dsimp only
      rw [fel_ne (by omega)]
      exact (S8.2.2.2.2.1 k hk).trans ((S7.2.2.2.2.1 k hk).trans (S6.2.2.2.2.1 k hk))
    have mrO : ∀ rr cd ca, MR (M.1 28) (M.1 29) rr cd ca (N.1 73) → MR (I4 28) (I4 29) rr cd ca (J4 73) := by
      intro rr cd ca hm
      rw [o28, o29]
      refine ⟨(oJ 7 (by omega)).trans hm.1, fun dd hdd => ?_⟩
      rw [oJ (58 + dd) (by omega)]
      exact hm.2 dd hdd
    obtain ⟨q1, q2, q3⟩ := RC5
    dsimp only at q1 q2 q3
    refine ⟨?_, ?_, ?_⟩
    · intro hb
      rw [i28, i29, i12, (q1 hb).1, (q1 hb).2.1, (q1 hb).2.2, o28, o29, o12]
      exact ⟨rfl, rfl, rfl⟩
    · obtain ⟨k', hk', e'⟩ := q2
      exact ⟨k', hk', (nJ 7 (by omega)).trans e'⟩
    · intro hb rr cd ca hrr e12 hmr
      obtain ⟨u1, u2, rr', cd', ca', u3, u4, u5, u6⟩ := q3 hb rr cd ca hrr (o12.trans e12) (mrO rr cd ca hmr)
      rw [i28, i29, i12]
      refine ⟨fun j hj => by rw [u1 j hj, o28], fun j hj => by rw [u2 j hj, o29], rr', cd', ca', u3, u4, u5, ?_⟩
      refine ⟨(nJ 7 (by omega)).trans u6.1, fun dd hdd => ?_⟩
      rw [nJ (58 + dd) (by omega)]
      exact u6.2 dd hdd
