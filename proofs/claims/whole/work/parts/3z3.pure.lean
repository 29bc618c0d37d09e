/-! PURE ROWS: goes on both sides -/
theorem thinks_2 (g : zg) {src : Nat → Int32} (f : Nat) : ∀ (k : Nat) (N : zM), k + f = 148 → (∀ j, j < 148 → N.1 73 j = src j) → zX (t_X12_thinks g) 2 [some (.ref 72), some (.int (nI k))] [] N = some (none, ((zu (zu (zu (cpF src 75 0 f k N.1) 72 5 1) 72 41 (-1)) 72 42 (-1)), N.2)) := by
  induction f with
  | zero =>
    intro k N hk hs
    rw [e_X12_thinks_2, cLtLF (N := 148) (by omega) (by omega), bif_f]
    rfl
  | succ f ih =>
    intro k N hk hs
    rw [e_X12_thinks_2, cLtLT (N := 148) (by omega) (by omega), bif_t, zbT (by omega) (by omega), bif_t, bif_t, zx_nI (by omega), nI_s1, hs k (by omega), cpF_s, Nat.zero_add]
    exact ih (k + 1) _ (by omega) (by intro j hj; dsimp only; rw [zu_ne (by omega)]; exact hs j hj)
theorem ends_2 (g : zg) {src : Nat → Int32} (f : Nat) : ∀ (k : Nat) (N : zM), k + f = 148 → (∀ j, j < 148 → N.1 75 j = src j) → zX (t_X12_endsThought g) 2 [some (.ref 72), some (.int (nI k))] [] N = some (none, ((zu (cpF src 73 0 f k N.1) 72 5 0), N.2)) := by
  induction f with
  | zero =>
    intro k N hk hs
    rw [e_X12_endsThought_2, cLtLF (N := 148) (by omega) (by omega), bif_f]
    rfl
  | succ f ih =>
    intro k N hk hs
    rw [e_X12_endsThought_2, cLtLT (N := 148) (by omega) (by omega), bif_t, zbT (by omega) (by omega), bif_t, bif_t, zx_nI (by omega), nI_s1, hs k (by omega), cpF_s, Nat.zero_add]
    exact ih (k + 1) _ (by omega) (by intro j hj; dsimp only; rw [zu_ne (by omega)]; exact hs j hj)
theorem ends_s (g : zg) {src : Nat → Int32} {N : zM} (h : ∀ j, j < 148 → N.1 75 j = src j) : X_X12_endsThought g [.ref 72] N = some (none, ((zu (cpF src 73 0 148 0 N.1) 72 5 0), N.2)) := (x_X12_endsThought_0 g N).trans (ends_2 g 148 0 N (by omega) h)
/-- what a thought leaves as it was -/
def TF (I I' : zI) : Prop := (∀ a, a ≠ 15 → a ≠ 16 → a ≠ 26 → a ≠ 40 → a ≠ 41 → I' a = I a) ∧ I' 40 0 = I 40 0
theorem goes_loop (g : zg) {n m mr ma D : Nat} {a2 : Int32} {wd fr wh en o k : Nat → Nat} {la : Nat → Nat} {mv : Nat → Int32} {dy wt wm mu : Nat → Nat} {src : Nat → Int32} (hD : D ≤ 99) (ha2 : inb a2 0 5 = true) (f : Nat) : ∀ (i d : Nat) (M N : zM), i + f = D → d + f ≤ 20000 → PR false 40 41 n d M.1 N.1 → LW m wd fr wh en o k M.1 N.1 → RO mr la mv M.1 N.1 → AG ma n dy wt wm mu M.1 N.1 → (∃ k, k ≤ 90 ∧ N.1 73 7 = nI k) → (∀ j, j < 148 → N.1 75 j = src j) → ∃ (v : Int32) (I' J' : zI), zX (t_X11_goes g) 44 [some (.ref 0), some (.int (nI D)), some (.int a2), some (.int (N.1 72 41)), some (.int (N.1 72 42)), some (.int (nI i)), none, none] [] M = some (some (.int v), (I', M.2)) ∧ zX (t_X12_goes g) 36 [some (.ref 72), some (.int (nI D)), some (.int a2), some (.int (nI i))] [] N = some (some (.int v), ((zu (cpF src 73 0 148 0 J') 72 5 0), N.2)) ∧ TF M.1 I' ∧ WG N.1 J' ∧ ∃ d', PR false 40 41 n d' I' J' := by
  have h40 : CO 40 41 := Or.inr ⟨rfl, rfl⟩
  induction f with
  | zero =>
    intro i d M N hi hd h hl ho ha h7 hs
    obtain ⟨_, _, _, _, a4, _, _, a7, a8, a9, _⟩ := CR_f h.1
    obtain ⟨w, hw, rfl⟩ := inb_ex (b := 5) (by omega) ha2
    rw [e_X11_goes_44, cLtF (by omega) (by omega), bif_f, e_X12_goes_36, cLtF (by omega) (by omega), bif_f]
    have hk : w = 0 ∨ w = 1 ∨ w = 2 ∨ w = 3 ∨ w = 4 ∨ w = 5 := by omega
    have wr : WG N.1 N.1 := ⟨fun _ _ _ _ _ _ => rfl, fun _ _ _ => rfl, LN_eq rfl⟩
    have tr : TF M.1 M.1 := ⟨fun _ _ _ _ _ _ => rfl, rfl⟩
    rcases hk with rfl | rfl | rfl | rfl | rfl | rfl
    · refine ⟨M.1 40 7, M.1, N.1, rfl, ?_, tr, wr, d, h⟩
      show zbI (X_X12_minister g [.ref 72] N) _ = _
      rw [x_X12_minister_0, zbI_s, ends_s g hs, zbV_s, a7]
    · refine ⟨M.1 40 8, M.1, N.1, rfl, ?_, tr, wr, d, h⟩
      show zbV (X_X12_endsThought g [.ref 72] N) _ = _
      rw [ends_s g hs, zbV_s, a8]
    · refine ⟨M.1 40 4, M.1, N.1, rfl, ?_, tr, wr, d, h⟩
      show zbI (X_X12_glass g [.ref 72] N) _ = _
      rw [x_X12_glass_0, zbI_s, ends_s g hs, zbV_s, a4]
    · refine ⟨M.1 40 9, M.1, N.1, rfl, ?_, tr, wr, d, h⟩
      show zbV (X_X12_endsThought g [.ref 72] N) _ = _
      rw [ends_s g hs, zbV_s, a9]
    · refine ⟨N.1 72 41, M.1, N.1, rfl, ?_, tr, wr, d, h⟩
      show zbV (X_X12_endsThought g [.ref 72] N) _ = _
      rw [ends_s g hs, zbV_s]
    · refine ⟨N.1 72 42, M.1, N.1, rfl, ?_, tr, wr, d, h⟩
      show zbV (X_X12_endsThought g [.ref 72] N) _ = _
      rw [ends_s g hs, zbV_s]
  | succ f ih =>
    intro i d M N hi hd h hl ho ha h7 hs
    obtain ⟨fo, I1, J1, q1, q2, q3, q4, q5, q6, q7, q8, q9, _⟩ := pass_al g h40 h hl ho ha (by omega) h7 (fun e => absurd e (by decide))
    obtain ⟨z1, z2, _⟩ := q8 rfl
    have t1 : TF M.1 I1 := by
      refine ⟨fun a b1 b2 b3 b4 b5 => ?_, q5.2 0 (by omega)⟩
      by_cases e28 : a = 28
      · rw [e28]; exact z1
      · by_cases e29 : a = 29
        · rw [e29]; exact z2
        · exact q5.1 a b4 b5 b1 b2 b3 e28 e29
    obtain ⟨v, I', J', u1, u2, u3, u4, d', u5⟩ := ih (i + 1) (d + 1) (I1, M.2) (J1, N.2) (by omega) (by omega) q4 (LW_w h40 hl q5 q6) (RO_w h40 ho q5 q6) (AG_w h40 ha q5 q6) q9 (by intro j hj; dsimp only; rw [q6.1 75 (by omega) (by omega) (by omega) (by omega) (by omega)]; exact hs j hj)
    refine ⟨v, I', J', ?_, ?_, ⟨fun a b1 b2 b3 b4 b5 => (u3.1 a b1 b2 b3 b4 b5).trans (t1.1 a b1 b2 b3 b4 b5), u3.2.trans t1.2⟩, WG_tr q6 u4, d', u5⟩
    · rw [e_X11_goes_44, cLtT (by omega) (by omega), bif_t, q2, zbI_s, nI_s1, (PR_d h).1]
      dsimp only at u1
      rw [q7 41, q7 42] at u1
      cases fo with
      | none =>
        rw [show cEq (bI none) (-1) = true from by decide, bif_t]
        exact u1
      | some u =>
        have hu := q1 u rfl
        have hn := h.1.1
        rw [cEq_n (bI_ne (by omega)), bif_f]
        have e0 : fel N.1 d (some u) = (bif cEq (N.1 72 41) (-1) then zu (zu N.1 72 41 (nI u)) 72 42 (nI d) else N.1) := rfl
        rw [e0] at u1
        cases hE : cEq (N.1 72 41) (-1)
        · rw [hE, bif_f] at u1
          exact u1
        · rw [hE, bif_t, zu_ne2 (show 41 ≠ 42 by omega), zu_eq, zu_eq] at u1
          exact u1
    · rw [e_X12_goes_36, cLtT (by omega) (by omega), bif_t, q3, zbI_s, nI_s1]
      exact u2
/-- the courts of both, with what stands beside them, once the reference has its court again -/
theorem CU_back {n d l rr s nx : Nat} {dd ll rf : Nat → Nat} {I J I' J' : zI} (hc : CU n (dd 0) (ll 0) (rf 0) I J) (hs : SP n dd ll rf s nx I J) (h1 : ∀ a, a ≠ 15 → a ≠ 16 → a ≠ 26 → a ≠ 40 → a ≠ 41 → I' a = I a) (h73 : ∀ k, k < 148 → J' 73 k = J 73 k) (m5 : J' 72 5 = 0) (m3 : J' 72 3 = J 72 3) (m6 : J' 72 6 = J 72 6) (m7 : J' 72 7 = J 72 7) (m8 : J' 72 8 = J 72 8) (h74 : J' 74 = J 74) (h76 : J' 76 = J 76) (h77 : J' 77 = J 77) (hb : ∀ k, k < 4 * ll 0 → I' 26 k = J' 78 k) : CU n (dd 0) (ll 0) (rf 0) I' J' ∧ SP n dd ll rf s nx I' J' := by
  obtain ⟨⟨p1, p2, p3, p4, p5⟩, ⟨a2, a2'⟩, a3, a4, a5, cd, ca, a6⟩ := hc
  have e28 := h1 28 (by omega) (by omega) (by omega) (by omega) (by omega)
  have e29 := h1 29 (by omega) (by omega) (by omega) (by omega) (by omega)
  have e7 := h1 7 (by omega) (by omega) (by omega) (by omega) (by omega)
  have e8 := h1 8 (by omega) (by omega) (by omega) (by omega) (by omega)
  constructor
  · refine ⟨⟨?_, ?_, by rw [e7]; exact p3, m5, ll 0, a2, (h73 2 (by omega)).trans a2', hb⟩, ⟨a2, (h73 2 (by omega)).trans a2'⟩, by rw [e7]; exact a3, a4, a5, cd, ca, MR_row a6 h73 e28 e29⟩
    · unfold CRJ
      rw [e7, e8, h76, h77]
      exact CR_ext7 p1 (fun _ _ _ => rfl) (fun _ _ => rfl) (fun k hk _ => h73 k (by omega)) m6 m7 m8
    · rw [h76, h77]
      exact RG_ext p2 p1.1 (fun k hk _ => h73 k (by omega))
  · have e : SP n (hd (dd 0) dd) (hd (ll 0) ll) (hd (rf 0) rf) s nx I' J' := by
      refine SP_step hs (h1 42 (by omega) (by omega) (by omega) (by omega) (by omega)) (fun a u1 u2 => h1 a (by omega) (by omega) (by omega) (by omega) (by omega)) h74 h76 h77 m3 m6 m7 m8 ?_ ?_
      · intro i hi cd2 ca2 row hm
        rw [e28, e29]
        exact hm
      · intro h0
        exact hs.2.2.2.2.2.1 0 h0
    have ef : ∀ f : Nat → Nat, hd (f 0) f = f := by
      intro f
      funext i
      cases i with
      | zero => rfl
      | succ i => rfl
    rw [ef, ef, ef] at e
    exact e
theorem goes_al (g : zg) (a1 a2 : Int32) {n m mr ma s nx : Nat} {dd ll rf : Nat → Nat} {wd fr wh en o k : Nat → Nat} {la : Nat → Nat} {mv : Nat → Int32} {dy wt wm mu : Nat → Nat} {M N : zM} (hc : CU n (dd 0) (ll 0) (rf 0) M.1 N.1) (hs : SP n dd ll rf s nx M.1 N.1) (hl : LW m wd fr wh en o k M.1 N.1) (ho : RO mr la mv M.1 N.1) (ha : AG ma n dy wt wm mu M.1 N.1) (h40 : M.1 40 0 = 0) : ∃ (v : Int32) (I' J' : zI), X_X11_goes g [.ref 0, .int a1, .int a2] M = some (some (.int v), (I', M.2)) ∧ X_X12_goes g [.ref 72, .int a1, .int a2] N = some (some (.int v), (J', N.2)) ∧ TF M.1 I' ∧ (∀ a, a ≠ 72 → a ≠ 73 → a ≠ 75 → a ≠ 78 → a ≠ 91 → a ≠ 92 → J' a = N.1 a) ∧ (∀ k, k ≠ 0 → k ≠ 41 → k ≠ 42 → J' 72 k = N.1 72 k) ∧ CU n (dd 0) (ll 0) (rf 0) I' J' ∧ SP n dd ll rf s nx I' J' := by
  have hcT := CU_t hc
  have hsT := SP_t hs
  have p4 : N.1 72 5 = 0 := hc.1.2.2.2.1
  rw [x_X11_goes_0, x_X12_goes_0, within_s, isIn_s, zbI_s, zbI_s, cEq0_b01]
  cases h1 : inb a1 1 99
  · exact ⟨-100000, M.1, _, rfl, rfl, ⟨fun _ _ _ _ _ _ => rfl, rfl⟩, fun a b1 _ _ _ _ _ => zu_ne b1, fun k b1 _ _ => zu_ne2 b1, hcT, hsT⟩
  · rw [Bool.not_true, bif_f, bif_f, within_s, isIn_s, zbI_s, zbI_s, cEq0_b01]
    cases h2 : inb a2 0 5
    · exact ⟨-100000, M.1, _, rfl, rfl, ⟨fun _ _ _ _ _ _ => rfl, rfl⟩, fun a b1 _ _ _ _ _ => zu_ne b1, fun k b1 _ _ => zu_ne2 b1, hcT, hsT⟩
    · obtain ⟨D, hD1, hD, rfl⟩ := inb1_ex (b := 99) (by omega) rfl h1
      rw [Bool.not_true, bif_f, bif_f, x_X3_take_0, zbV_s, x_X12_thinks_0, show zX (t_X12_thinks g) 2 [some (.ref 72), some (.int 0)] [] ((zu N.1 72 0 0), N.2) = _ from thinks_2 g (src := N.1 73) 148 0 ((zu N.1 72 0 0), N.2) (by omega) (by intro j _; dsimp only; rw [zu_ne (by omega)]), zbV_s]
      dsimp only
      have eT : ∀ I : zI, (zu (zu (zu (zu (zu (zu (zu (zu (zu (zu (zu (zcp I 8 41 (zx 70)) 40 2 (I 7 2)) 40 3 (I 7 3)) 40 4 (I 7 4)) 40 5 (I 7 5)) 40 6 (I 7 6)) 40 7 (I 7 7)) 40 8 (I 7 8)) 40 9 (I 7 9)) 40 10 (I 7 10)) 40 11 (I 7 11)) 40 12 (I 7 12)) = tkI I 40 41 7 8 := fun _ => rfl
      rw [eT]
      have fJ : ∀ a, a ≠ 72 → a ≠ 75 → zu (zu (zu (cpF (N.1 73) 75 0 148 0 (zu N.1 72 0 0)) 72 5 1) 72 41 (-1)) 72 42 (-1) a = N.1 a := by
        intro a u1 u2
        rw [zu_ne u1, zu_ne u1, zu_ne u1, cpF_ne u2, zu_ne u1]
      have fK : ∀ k, k ≠ 0 → k ≠ 5 → k ≠ 41 → k ≠ 42 → zu (zu (zu (cpF (N.1 73) 75 0 148 0 (zu N.1 72 0 0)) 72 5 1) 72 41 (-1)) 72 42 (-1) 72 k = N.1 72 k := by
        intro k u1 u2 u3 u4
        rw [zu_ne2 u4, zu_ne2 u3, zu_ne2 u2, cpF_ne (by omega), zu_ne2 u1]
      have f41 : zu (zu (zu (cpF (N.1 73) 75 0 148 0 (zu N.1 72 0 0)) 72 5 1) 72 41 (-1)) 72 42 (-1) 72 41 = -1 := by rw [zu_ne2 (by omega), zu_eq]
      have f42 : zu (zu (zu (cpF (N.1 73) 75 0 148 0 (zu N.1 72 0 0)) 72 5 1) 72 41 (-1)) 72 42 (-1) 72 42 = -1 := zu_eq
      have f5 : zu (zu (zu (cpF (N.1 73) 75 0 148 0 (zu N.1 72 0 0)) 72 5 1) 72 41 (-1)) 72 42 (-1) 72 5 = 1 := by rw [zu_ne2 (by omega), zu_ne2 (by omega), zu_eq]
      have f75 : ∀ j, j < 148 → zu (zu (zu (cpF (N.1 73) 75 0 148 0 (zu N.1 72 0 0)) 72 5 1) 72 41 (-1)) 72 42 (-1) 75 j = N.1 73 j := by
        intro j hj
        rw [zu_ne (by omega), zu_ne (by omega), zu_ne (by omega), cpF_at, if_pos (by omega)]
        rfl
      generalize hX : zu (zu (zu (cpF (N.1 73) 75 0 148 0 (zu N.1 72 0 0)) 72 5 1) 72 41 (-1)) 72 42 (-1) = X at fJ fK f41 f42 f5 f75 ⊢
      have fI : ∀ a, a ≠ 40 → a ≠ 41 → tkI M.1 40 41 7 8 a = M.1 a := fun a u1 u2 => tk_ne u1 u2
      have f40 : tkI M.1 40 41 7 8 40 0 = 0 := by
        rw [← h40]
        unfold tkI
        rw [zu_ne2 (by omega), zu_ne2 (by omega), zu_ne2 (by omega), zu_ne2 (by omega), zu_ne2 (by omega), zu_ne2 (by omega), zu_ne2 (by omega), zu_ne2 (by omega), zu_ne2 (by omega), zu_ne2 (by omega), zu_ne2 (by omega)]
        unfold zcp
        rw [zr_ne (by omega)]
      have fld : ∀ k, 2 ≤ k → k ≤ 12 → tkI M.1 40 41 7 8 40 k = M.1 7 k := fun k u1 u2 => tk_fld u1 u2
      have frw : ∀ k, k < 70 → tkI M.1 40 41 7 8 41 k = M.1 8 k := fun k u1 => tk_row (by omega) u1
      generalize hY : tkI M.1 40 41 7 8 = Y at fI f40 fld frw ⊢
      obtain ⟨⟨p1, p2, p3, _, l, hl0, p5, p6⟩, ⟨hL, eL⟩, p7, p8, p9, cd, ca, p10⟩ := id hc
      have hP : PR false 40 41 n (dd 0) Y X := by
        refine ⟨?_, ?_, f40, f5, l, hl0, by rw [fJ 73 (by omega) (by omega)]; exact p5, by rw [fI 26 (by omega) (by omega), fJ 78 (by omega) (by omega)]; exact p6⟩
        · unfold CRJ
          rw [fJ 73 (by omega) (by omega), fJ 76 (by omega) (by omega), fJ 77 (by omega) (by omega)]
          exact CR_ext7 p1 (fun k u1 u2 => fld k u1 (by omega)) frw (fun _ _ _ => rfl) (fK 6 (by omega) (by omega) (by omega) (by omega)) (fK 7 (by omega) (by omega) (by omega) (by omega)) (fK 8 (by omega) (by omega) (by omega) (by omega))
        · rw [fJ 73 (by omega) (by omega), fJ 76 (by omega) (by omega), fJ 77 (by omega) (by omega)]
          exact p2
      have hl' : LW m wd fr wh en o k Y X := LW_of hl (by rw [fI 9 (by omega) (by omega)]) (fI 10 (by omega) (by omega)) (fI 11 (by omega) (by omega)) (fI 12 (by omega) (by omega)) (fI 13 (by omega) (by omega)) (fI 14 (by omega) (by omega)) (by rw [fJ 81 (by omega) (by omega)]) (fJ 82 (by omega) (by omega)) (fJ 83 (by omega) (by omega)) (fJ 84 (by omega) (by omega)) (fJ 85 (by omega) (by omega)) (fJ 86 (by omega) (by omega)) (fJ 87 (by omega) (by omega))
      have ho' : RO mr la mv Y X := RO_of ho (fI 17 (by omega) (by omega)) (fI 18 (by omega) (by omega)) (fI 19 (by omega) (by omega)) (fK 35 (by omega) (by omega) (by omega) (by omega)) (fJ 89 (by omega) (by omega))
      have ha' : AG ma n dy wt wm mu Y X := AG_of ha (fI 20 (by omega) (by omega)) (fI 21 (by omega) (by omega)) (fI 22 (by omega) (by omega)) (fI 23 (by omega) (by omega)) (fI 24 (by omega) (by omega)) (fK 37 (by omega) (by omega) (by omega) (by omega)) (fJ 90 (by omega) (by omega))
      obtain ⟨v, I', J', u1, u2, u3, u4, d', u5⟩ := goes_loop g (D := D) (a2 := a2) (src := N.1 73) hD h2 D 0 (dd 0) (Y, M.2) (X, N.2) (by omega) (by omega) hP hl' ho' ha' ⟨min (rf 0) 90, by omega, by dsimp only; rw [fJ 73 (by omega) (by omega)]; exact p10.1⟩ f75
      dsimp only at u1
      rw [f41, f42] at u1
      have tf : TF M.1 I' := ⟨fun a b1 b2 b3 b4 b5 => (u3.1 a b1 b2 b3 b4 b5).trans (fI a b4 b5), u3.2.trans (f40.trans h40.symm)⟩
      have g1 : ∀ a, a ≠ 72 → a ≠ 73 → a ≠ 75 → a ≠ 78 → a ≠ 91 → a ≠ 92 → zu (cpF (N.1 73) 73 0 148 0 J') 72 5 0 a = N.1 a := by
        intro a b1 b2 b3 b4 b5 b6
        rw [zu_ne b1, cpF_ne b2, u4.1 a b1 b2 b4 b5 b6]
        exact fJ a b1 b3
      have g2 : ∀ k, k ≠ 0 → k ≠ 41 → k ≠ 42 → zu (cpF (N.1 73) 73 0 148 0 J') 72 5 0 72 k = N.1 72 k := by
        intro k b1 b2 b3
        by_cases e5 : k = 5
        · subst e5; rw [zu_eq]; exact p4.symm
        · rw [zu_ne2 e5, cpF_ne (by omega), u4.2.1 k b2 b3]
          exact fK k b1 e5 b2 b3
      have g3 : ∀ k, k < 148 → zu (cpF (N.1 73) 73 0 148 0 J') 72 5 0 73 k = N.1 73 k := by
        intro k hk
        rw [zu_ne (by omega), cpF_at, if_pos (by omega)]
        rfl
      obtain ⟨l', l1, l2, l3⟩ := u4.2.2 (ll 0) hL (by dsimp only; rw [fJ 73 (by omega) (by omega)]; exact eL)
      have hb : ∀ k, k < 4 * ll 0 → I' 26 k = zu (cpF (N.1 73) 73 0 148 0 J') 72 5 0 78 k := by
        intro k hk
        rw [zu_ne (by omega), cpF_ne (by omega)]
        obtain ⟨_, _, _, _, l4, hl4, e4, e5⟩ := u5
        have : l4 = l' := (nI_eq (by omega) (by omega)).mp (e4.symm.trans l3)
        exact e5 k (by omega)
      have hB := CU_back (d := 0) (l := 0) (rr := 0) hc hs tf.1 g3 zu_eq (g2 3 (by omega) (by omega) (by omega)) (g2 6 (by omega) (by omega) (by omega)) (g2 7 (by omega) (by omega) (by omega)) (g2 8 (by omega) (by omega) (by omega)) (g1 74 (by omega) (by omega) (by omega) (by omega) (by omega) (by omega)) (g1 76 (by omega) (by omega) (by omega) (by omega) (by omega) (by omega)) (g1 77 (by omega) (by omega) (by omega) (by omega) (by omega) (by omega)) hb
      exact ⟨v, I', _, u1, u2, tf, g1, g2, hB.1, hB.2⟩
