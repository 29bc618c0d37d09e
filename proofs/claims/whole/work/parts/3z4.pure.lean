/-! PURE ROWS: safe on both sides -/
theorem by_t : ∀ i : Fin 22, cGt (nI i.val - 10) 10 = decide (20 < i.val) ∧ nI i.val - 10 + 1 = nI (i.val + 1) - 10 := by decide +kernel
theorem sm_m1 (x y : Nat) : nI x - nI y + (-1) = nI x - nI (y + 1) := by
  rw [← nI_s1, Int32.sub_eq_add_neg, Int32.sub_eq_add_neg, Int32.neg_add, Int32.sub_eq_add_neg, Int32.add_assoc]
theorem sm_w (x y w : Nat) : nI x - nI y + nI w = nI (x + w) - nI y := by
  rw [← nI_ad2, Int32.sub_eq_add_neg, Int32.sub_eq_add_neg, Int32.add_assoc, Int32.add_assoc, Int32.add_comm (-(nI y))]
def BF (I I' : zI) : Prop := (∀ a, a ≠ 15 → a ≠ 16 → a ≠ 40 → I' a = I a) ∧ ∀ k, k ≠ 4 → I' 40 k = I 40 k
def BG (J J' : zI) : Prop := (∀ a, a ≠ 73 → a ≠ 91 → a ≠ 92 → J' a = J a) ∧ ∀ k, k ≠ 3 → J' 73 k = J 73 k
theorem bt_loop (g : zg) {n t s m : Nat} {md was : Int32} {wd fr wh en o k : Nat → Nat} (ht : t < n) (hs : s ≤ 4) (f : Nat) : ∀ (i x y : Nat) (M N : zM), i + f = 21 → CRJ n 40 41 M.1 N.1 → LW m wd fr wh en o k M.1 N.1 → x ≤ 99 * i → y ≤ i → ∃ (x' y' : Nat) (I' J' : zI), x' ≤ 2079 ∧ y' ≤ 21 ∧ zX (t_X10_blameTomorrow g) 25 [some (.ref 6), some (.ref 40), some (.int (nI t)), some (.int (nI s)), some (.int md), some (.int (nI x - nI y)), some (.int (nI i - 10))] [] M = some (some (.int (nI x' - nI y')), (I', M.2)) ∧ zX (t_X12_blamedIn g) 31 [some (.ref 72), some (.int (nI t)), some (.int (nI s)), some (.int was), some (.int md), some (.int (nI x - nI y)), some (.int (nI i - 10))] [] N = some (some (.int (nI x' - nI y')), ((zu J' 73 3 was), N.2)) ∧ BF M.1 I' ∧ BG N.1 J' := by
  have h40 : CO 40 41 := Or.inr ⟨rfl, rfl⟩
  induction f with
  | zero =>
    intro i x y M N hi hc hl hx hy
    have hi' : i = 21 := by omega
    subst hi'
    refine ⟨x, y, M.1, N.1, by omega, hy, ?_, ?_, ⟨fun _ _ _ _ => rfl, fun _ _ => rfl⟩, ⟨fun _ _ _ _ => rfl, fun _ _ => rfl⟩⟩
    · rw [e_X10_blameTomorrow_25, show cGt (nI 21 - 10) 10 = true from by decide, bif_t]
    · rw [e_X12_blamedIn_31, show cGt (nI 21 - 10) 10 = true from by decide, bif_t]
  | succ f ih =>
    intro i x y M N hi hc hl hx hy
    obtain ⟨t1, t2⟩ := by_t ⟨i, by omega⟩
    dsimp only at t1 t2
    obtain ⟨q, hq, eq⟩ := hld_ex (b := 99) (by omega) (md + (nI i - 10))
    have eq' : hld (md + (nI i - 10)) 0 99 = nI q := eq
    have hk20 : nI q / 20 = nI (q / 20) := idiv_nI (d := 20) (by omega) (by omega) (by omega)
    rw [e_X10_blameTomorrow_25, t1, decide_eq_false (by omega), bif_f, hold_s g (by decide), zbI_s, eq', x_X3_kind_0_1, zbI_s]
    rw [e_X12_blamedIn_31, t1, decide_eq_false (by omega), bif_f, held_s, zbI_s, eq', x_X12_glassBe_0, zbV_s, x_X12_glass_0, zbI_s, x_X12_kindOf_0, zbI_s]
    dsimp only
    rw [zu_eq, zu_eq, Int32.sub_add_cancel, hk20, t2]
    have c1 : CRJ n 40 41 (zu M.1 40 4 (nI q)) (zu N.1 73 3 (nI q - 50)) := by
      unfold CRJ
      rw [zu_upd, zu_ne (show 41 ≠ 40 by omega), zu_upd, zu_ne (show 72 ≠ 73 by omega), zu_ne (show 76 ≠ 73 by omega), zu_ne (show 77 ≠ 73 by omega)]
      exact CR_fld hc (Or.inr (Or.inl ⟨rfl, rfl, (Int32.sub_add_cancel _ _).symm⟩))
    have l1 : LW m wd fr wh en o k (zu M.1 40 4 (nI q)) (zu N.1 73 3 (nI q - 50)) := LW_of hl (by rw [zu_ne (by omega)]) (zu_ne (by omega)) (zu_ne (by omega)) (zu_ne (by omega)) (zu_ne (by omega)) (zu_ne (by omega)) (by rw [zu_ne (by omega)]) (zu_ne (by omega)) (zu_ne (by omega)) (zu_ne (by omega)) (zu_ne (by omega)) (zu_ne (by omega)) (zu_ne (by omega))
    cases cEq (nI (q / 20)) (nI s)
    · rw [bif_f, bif_f]
      obtain ⟨f1, s1, f2, s2, w, hw, q1, q2⟩ := blame_al g h40 (s := s) (q := q) (t := t) (M := ((zu M.1 40 4 (nI q)), M.2)) (N := ((zu N.1 73 3 (nI q - 50)), N.2)) l1 c1 ht hs hq (by dsimp only; exact zu_eq)
      rw [q1, q2, zbI_s, zbI_s, sm_w]
      dsimp only
      obtain ⟨x', y', I', J', u1, u2, u3, u4, u5, u6⟩ := ih (i + 1) (x + w) y ((zr (zr (zu M.1 40 4 (nI q)) 16 f1) 15 s1), M.2) ((zr (zr (zu N.1 73 3 (nI q - 50)) 91 f2) 92 s2), N.2) (by omega) (by
        unfold CRJ
        dsimp only
        rw [zr_ne (show 40 ≠ 15 by omega), zr_ne (show 40 ≠ 16 by omega), zr_ne (show 41 ≠ 15 by omega), zr_ne (show 41 ≠ 16 by omega), zr_ne (show 73 ≠ 92 by omega), zr_ne (show 73 ≠ 91 by omega), zr_ne (show 72 ≠ 92 by omega), zr_ne (show 72 ≠ 91 by omega), zr_ne (show 76 ≠ 92 by omega), zr_ne (show 76 ≠ 91 by omega), zr_ne (show 77 ≠ 92 by omega), zr_ne (show 77 ≠ 91 by omega)]
        exact c1) (LW_of l1 (by dsimp only; rw [zr_ne (by omega), zr_ne (by omega)]) (by dsimp only; rw [zr_ne (by omega), zr_ne (by omega)]) (by dsimp only; rw [zr_ne (by omega), zr_ne (by omega)]) (by dsimp only; rw [zr_ne (by omega), zr_ne (by omega)]) (by dsimp only; rw [zr_ne (by omega), zr_ne (by omega)]) (by dsimp only; rw [zr_ne (by omega), zr_ne (by omega)]) (by dsimp only; rw [zr_ne (by omega), zr_ne (by omega)]) (by dsimp only; rw [zr_ne (by omega), zr_ne (by omega)]) (by dsimp only; rw [zr_ne (by omega), zr_ne (by omega)]) (by dsimp only; rw [zr_ne (by omega), zr_ne (by omega)]) (by dsimp only; rw [zr_ne (by omega), zr_ne (by omega)]) (by dsimp only; rw [zr_ne (by omega), zr_ne (by omega)]) (by dsimp only; rw [zr_ne (by omega), zr_ne (by omega)])) (by omega) (by omega)
      refine ⟨x', y', I', J', u1, u2, u3, u4, ⟨?_, ?_⟩, ⟨?_, ?_⟩⟩
      · intro a b1 b2 b3
        rw [u5.1 a b1 b2 b3]
        dsimp only
        rw [zr_ne b1, zr_ne b2, zu_ne b3]
      · intro k' hk'
        rw [u5.2 k' hk']
        dsimp only
        rw [zr_ne (by omega), zr_ne (by omega), zu_ne2 hk']
      · intro a b1 b2 b3
        rw [u6.1 a b1 b2 b3]
        dsimp only
        rw [zr_ne b3, zr_ne b2, zu_ne b1]
      · intro k' hk'
        rw [u6.2 k' hk']
        dsimp only
        rw [zr_ne (by omega), zr_ne (by omega), zu_ne2 hk']
    · rw [bif_t, bif_t, sm_m1]
      obtain ⟨x', y', I', J', u1, u2, u3, u4, u5, u6⟩ := ih (i + 1) x (y + 1) ((zu M.1 40 4 (nI q)), M.2) ((zu N.1 73 3 (nI q - 50)), N.2) (by omega) c1 l1 (by omega) (by omega)
      refine ⟨x', y', I', J', u1, u2, u3, u4, ⟨?_, ?_⟩, ⟨?_, ?_⟩⟩
      · intro a b1 b2 b3
        rw [u5.1 a b1 b2 b3]
        dsimp only
        rw [zu_ne b3]
      · intro k' hk'
        rw [u5.2 k' hk']
        dsimp only
        rw [zu_ne2 hk']
      · intro a b1 b2 b3
        rw [u6.1 a b1 b2 b3]
        dsimp only
        rw [zu_ne b1]
      · intro k' hk'
        rw [u6.2 k' hk']
        dsimp only
        rw [zu_ne2 hk']
/-- what safe leaves as it was -/
def SG (J J' : zI) : Prop := ∀ a, a ≠ 91 → a ≠ 92 → J' a = J a
def SFc (I I' : zI) : Prop := (∀ a, a ≠ 15 → a ≠ 16 → a ≠ 40 → a ≠ 41 → I' a = I a) ∧ I' 40 0 = I 40 0
/-- one kind -/
theorem bt_al (g : zg) {n t s m mr d : Nat} {wd fr wh en o k : Nat → Nat} {la : Nat → Nat} {mv : Nat → Int32} {M N : zM} (hc : CRJ n 7 8 M.1 N.1) (hday : N.1 73 0 = nI d) (hd : d < 100000) (hl : LW m wd fr wh en o k M.1 N.1) (ho : RO mr la mv M.1 N.1) (ht : t < n) (hs : s ≤ 4) : ∃ (x' y' : Nat) (I' J' : zI), x' ≤ 2079 ∧ y' ≤ 21 ∧ zbV (X_X3_take g [.ref 40, .ref 7] M) (fun M1 => X_X10_blameTomorrow g [.ref 6, .ref 40, .int (nI t), .int (nI s)] M1) = some (some (.int (nI x' - nI y')), (I', M.2)) ∧ X_X12_blamedIn g [.ref 72, .int (nI t), .int (nI s)] N = some (some (.int (nI x' - nI y')), (J', N.2)) ∧ SFc M.1 I' ∧ SG N.1 J' := by
  have eT : ∀ I : zI, (zu (zu (zu (zu (zu (zu (zu (zu (zu (zu (zu (zcp I 8 41 (zx 70)) 40 2 (I 7 2)) 40 3 (I 7 3)) 40 4 (I 7 4)) 40 5 (I 7 5)) 40 6 (I 7 6)) 40 7 (I 7 7)) 40 8 (I 7 8)) 40 9 (I 7 9)) 40 10 (I 7 10)) 40 11 (I 7 11)) 40 12 (I 7 12)) = tkI I 40 41 7 8 := fun _ => rfl
  rw [x_X3_take_0, zbV_s, eT]
  have fI : ∀ a, a ≠ 40 → a ≠ 41 → tkI M.1 40 41 7 8 a = M.1 a := fun a u1 u2 => tk_ne u1 u2
  have f40 : tkI M.1 40 41 7 8 40 0 = M.1 40 0 := by
    unfold tkI
    rw [zu_ne2 (by omega), zu_ne2 (by omega), zu_ne2 (by omega), zu_ne2 (by omega), zu_ne2 (by omega), zu_ne2 (by omega), zu_ne2 (by omega), zu_ne2 (by omega), zu_ne2 (by omega), zu_ne2 (by omega), zu_ne2 (by omega)]
    unfold zcp
    rw [zr_ne (by omega)]
  have fld : ∀ k, 2 ≤ k → k ≤ 12 → tkI M.1 40 41 7 8 40 k = M.1 7 k := fun k u1 u2 => tk_fld u1 u2
  have frw : ∀ k, k < 70 → tkI M.1 40 41 7 8 41 k = M.1 8 k := fun k u1 => tk_row (by omega) u1
  generalize hY : tkI M.1 40 41 7 8 = Y at fI f40 fld frw ⊢
  obtain ⟨_, _, _, _, a4, _, _, _, _, _, a10, _⟩ := CR_f hc
  have hc' : CRJ n 40 41 Y N.1 := CR_ext7 hc (fun k u1 u2 => fld k u1 (by omega)) frw (fun _ _ _ => rfl) rfl rfl rfl
  have hl' : LW m wd fr wh en o k Y N.1 := LW_of hl (by rw [fI 9 (by omega) (by omega)]) (fI 10 (by omega) (by omega)) (fI 11 (by omega) (by omega)) (fI 12 (by omega) (by omega)) (fI 13 (by omega) (by omega)) (fI 14 (by omega) (by omega)) rfl rfl rfl rfl rfl rfl rfl
  have ho' : RO mr la mv Y N.1 := RO_of ho (fI 17 (by omega) (by omega)) (fI 18 (by omega) (by omega)) (fI 19 (by omega) (by omega)) rfl rfl
  obtain ⟨x', y', I', J', u1, u2, u3, u4, u5, u6⟩ := bt_loop g (t := t) (s := s) (md := N.1 73 3 + 50 + mvA la mv mr d) (was := N.1 73 3) ht hs 21 0 0 0 (Y, M.2) N (by omega) hc' hl' (by omega) (by omega)
  refine ⟨x', y', I', zu J' 73 3 (N.1 73 3), u1, u2, ?_, ?_, ⟨?_, ?_⟩, ?_⟩
  · rw [x_X10_blameTomorrow_0]
    dsimp only
    rw [fld 10 (by omega) (by omega), a10, hday, moveC_r g (M := (Y, M.2)) ho' (by omega), zbI_s, fld 4 (by omega) (by omega), a4]
    exact u3
  · rw [x_X12_blamedIn_0, x_X12_glass_0, zbI_s, hday, moveM_r g ho' (by omega), zbI_s]
    exact u4
  · intro a b1 b2 b3 b4
    rw [u5.1 a b1 b2 b3]
    exact fI a b3 b4
  · rw [u5.2 0 (by omega)]
    exact f40
  · intro a b1 b2
    by_cases e : a = 73
    · subst e
      funext k'
      by_cases e3 : k' = 3
      · subst e3; rw [zu_eq]
      · rw [zu_ne2 e3]
        exact u6.2 k' e3
    · rw [zu_ne e]
      exact u6.1 a e b1 b2
theorem safe_loop (g : zg) {n t m mr d : Nat} {a2 : Int32} {wd fr wh en o k : Nat → Nat} {la : Nat → Nat} {mv : Nat → Int32} (hd : d < 100000) (ht : t < n) (f : Nat) : ∀ (s : Nat) (bs ls : Int32) (M N : zM), s + f = 5 → CRJ n 7 8 M.1 N.1 → N.1 73 0 = nI d → LW m wd fr wh en o k M.1 N.1 → RO mr la mv M.1 N.1 → 0 < s → ∃ (v : Int32) (I' J' : zI), zX (t_X11_safe g) 35 [some (.ref 0), some (.int (nI t)), some (.int a2), some (.int bs), some (.int ls), some (.int (nI s)), none] [] M = some (some (.int v), (I', M.2)) ∧ zX (t_X12_safe g) 37 [some (.ref 72), some (.int (nI t)), some (.int a2), some (.int bs), some (.int ls), some (.int (nI s)), none] [] N = some (some (.int v), (J', N.2)) ∧ SFc M.1 I' ∧ SG N.1 J' := by
  induction f with
  | zero =>
    intro s bs ls M N hi hc hday hl ho h0
    refine ⟨bif cEq0 a2 then bs else ls, M.1, N.1, ?_, ?_, ⟨fun _ _ _ _ _ => rfl, rfl⟩, fun _ _ _ => rfl⟩
    · rw [e_X11_safe_35, cLtLF (N := 5) (by omega) (by omega), bif_f, bif_push]
    · rw [e_X12_safe_37, cLtLF (N := 5) (by omega) (by omega), bif_f, bif_push]
  | succ f ih =>
    intro s bs ls M N hi hc hday hl ho h0
    obtain ⟨x', y', I1, J1, u1, u2, u3, u4, u5, u6⟩ := bt_al g (s := s) hc hday hd hl ho ht (by omega)
    have hc' : CRJ n 7 8 I1 J1 := by
      unfold CRJ
      rw [u5.1 7 (by omega) (by omega) (by omega) (by omega), u5.1 8 (by omega) (by omega) (by omega) (by omega), u6 73 (by omega) (by omega), u6 72 (by omega) (by omega), u6 76 (by omega) (by omega), u6 77 (by omega) (by omega)]
      exact hc
    have p : ∀ a, 9 ≤ a → a ≤ 14 → I1 a = M.1 a := fun a w1 w2 => u5.1 a (by omega) (by omega) (by omega) (by omega)
    have q : ∀ a, 81 ≤ a → a ≤ 87 → J1 a = N.1 a := fun a w1 w2 => u6 a (by omega) (by omega)
    have hl' : LW m wd fr wh en o k I1 J1 := LW_of hl (by rw [p 9 (by omega) (by omega)]) (p 10 (by omega) (by omega)) (p 11 (by omega) (by omega)) (p 12 (by omega) (by omega)) (p 13 (by omega) (by omega)) (p 14 (by omega) (by omega)) (by rw [q 81 (by omega) (by omega)]) (q 82 (by omega) (by omega)) (q 83 (by omega) (by omega)) (q 84 (by omega) (by omega)) (q 85 (by omega) (by omega)) (q 86 (by omega) (by omega)) (q 87 (by omega) (by omega))
    have ho' : RO mr la mv I1 J1 := RO_of ho (u5.1 17 (by omega) (by omega) (by omega) (by omega)) (u5.1 18 (by omega) (by omega) (by omega) (by omega)) (u5.1 19 (by omega) (by omega) (by omega) (by omega)) (by rw [u6 72 (by omega) (by omega)]) (u6 89 (by omega) (by omega))
    have go : ∀ (bs' ls' : Int32), ∃ (v : Int32) (I' J' : zI), zX (t_X11_safe g) 35 [some (.ref 0), some (.int (nI t)), some (.int a2), some (.int bs'), some (.int ls'), some (.int (nI (s + 1))), none] [] (I1, M.2) = some (some (.int v), (I', M.2)) ∧ zX (t_X12_safe g) 37 [some (.ref 72), some (.int (nI t)), some (.int a2), some (.int bs'), some (.int ls'), some (.int (nI (s + 1))), none] [] (J1, N.2) = some (some (.int v), (J', N.2)) ∧ SFc M.1 I' ∧ SG N.1 J' := by
      intro bs' ls'
      obtain ⟨v, I', J', w1, w2, w3, w4⟩ := ih (s + 1) bs' ls' (I1, M.2) (J1, N.2) (by omega) hc' (by dsimp only; rw [u6 73 (by omega) (by omega)]; exact hday) hl' ho' (by omega)
      exact ⟨v, I', J', w1, w2, ⟨fun a b1 b2 b3 b4 => (w3.1 a b1 b2 b3 b4).trans (u5.1 a b1 b2 b3 b4), w3.2.trans u5.2⟩, fun a b1 b2 => (w4 a b1 b2).trans (u6 a b1 b2)⟩
    obtain ⟨I0, e0⟩ : ∃ I0 : zI, X_X3_take g [.ref 40, .ref 7] M = some (none, (I0, M.2)) := ⟨_, x_X3_take_0 g M⟩
    rw [e0, zbV_s] at u3
    rw [e_X11_safe_35, cLtLT (N := 5) (by omega) (by omega), bif_t, e0, zbV_s, u3, zbI_s, cEq0_nI (by omega), decide_eq_false (by omega), bif_f, nI_s1]
    rw [e_X12_safe_37, cLtLT (N := 5) (by omega) (by omega), bif_t, u4, zbI_s, lesser_s, zbI_s, zbI_s, nI_s1]
    generalize nI x' - nI y' = v
    cases h1 : cLt v ls
    · rw [bif_f, bif_f]
      have e : (bif cLt ls v then ls else v) = ls := by
        cases h2 : cLt ls v
        · unfold cLt at h1 h2
          rw [decide_eq_false_iff_not, Int32.lt_iff_toInt_lt] at h1 h2
          rw [bif_f, ← Int32.toInt_inj]
          omega
        · rfl
      rw [e]
      exact go bs ls
    · rw [bif_t, bif_t]
      have e : (bif cLt ls v then ls else v) = v := by
        cases h2 : cLt ls v
        · rfl
        · unfold cLt at h1 h2
          rw [decide_eq_true_eq, Int32.lt_iff_toInt_lt] at h1 h2
          exact absurd h1 (by omega)
      rw [e]
      exact go (nI s) v
theorem small_t {x y : Nat} (hx : x ≤ 2079) (hy : y ≤ 21) : cLt (nI x - nI y) 1000000 = true ∧ cLt 1000000 (nI x - nI y) = false := by
  have e1 : (nI x).toInt = x := nI_toInt (by omega)
  have e2 : (nI y).toInt = y := nI_toInt (by omega)
  have e3 : (nI x - nI y).toInt = (x : Int) - y := by
    rw [Int32.toInt_sub, e1, e2]
    exact Int.bmod_eq_of_le (by omega) (by omega)
  have e4 : (1000000 : Int32).toInt = 1000000 := by decide
  unfold cLt
  rw [decide_eq_true_eq, decide_eq_false_iff_not, Int32.lt_iff_toInt_lt, Int32.lt_iff_toInt_lt, e3, e4]
  omega
theorem safe_al (g : zg) (a1 a2 : Int32) {n m mr d : Nat} {wd fr wh en o k : Nat → Nat} {la : Nat → Nat} {mv : Nat → Int32} {M N : zM} (hc : CRJ n 7 8 M.1 N.1) (hday : N.1 73 0 = nI d) (hd : d < 100000) (hl : LW m wd fr wh en o k M.1 N.1) (ho : RO mr la mv M.1 N.1) : ∃ (v : Int32) (I' J' : zI), X_X11_safe g [.ref 0, .int a1, .int a2] M = some (some (.int v), (I', M.2)) ∧ X_X12_safe g [.ref 72, .int a1, .int a2] N = some (some (.int v), (J', N.2)) ∧ SFc M.1 I' ∧ SG (zu N.1 72 0 0) J' := by
  obtain ⟨hn, hc2, hm, _⟩ := CR_f hc
  rw [x_X11_safe_0, x_X12_safe_0, has7_s, isT_s, zbI_s, zbI_s, cEq0_b01, cEq0_b01]
  dsimp only
  rw [zu_ne2 (show 6 ≠ 0 by omega), hc2, hm]
  cases h1 : hsB (nI n) a1
  · exact ⟨-10000, M.1, _, rfl, rfl, ⟨fun _ _ _ _ _ => rfl, rfl⟩, fun _ _ _ => rfl⟩
  · rw [Bool.not_true, bif_f, bif_f, within_s, isIn_s, zbI_s, zbI_s, cEq0_b01]
    cases h2 : inb a2 0 1
    · exact ⟨-10000, M.1, _, rfl, rfl, ⟨fun _ _ _ _ _ => rfl, rfl⟩, fun _ _ _ => rfl⟩
    · obtain ⟨t, ht, rfl⟩ := hsB_ex hn h1
      rw [Bool.not_true, bif_f, bif_f]
      have hcT := CRJ_t hc
      have hlT := LW_t hl
      have hoT : RO mr la mv M.1 (zu N.1 72 0 0) := RO_of ho rfl rfl rfl (zu_ne2 (by omega)) (zu_ne (by omega))
      have hdT : zu N.1 72 0 0 73 0 = nI d := by rw [zu_ne (by omega)]; exact hday
      obtain ⟨x', y', I1, J1, u1, u2, u3, u4, u5, u6⟩ := bt_al g (s := 0) (N := ((zu N.1 72 0 0), N.2)) hcT hdT hd hlT hoT ht (by omega)
      have hc' : CRJ n 7 8 I1 J1 := by
        unfold CRJ
        rw [u5.1 7 (by omega) (by omega) (by omega) (by omega), u5.1 8 (by omega) (by omega) (by omega) (by omega), u6 73 (by omega) (by omega), u6 72 (by omega) (by omega), u6 76 (by omega) (by omega), u6 77 (by omega) (by omega)]
        exact hcT
      have p : ∀ a, 9 ≤ a → a ≤ 14 → I1 a = M.1 a := fun a w1 w2 => u5.1 a (by omega) (by omega) (by omega) (by omega)
      have q : ∀ a, 81 ≤ a → a ≤ 87 → J1 a = zu N.1 72 0 0 a := fun a w1 w2 => u6 a (by omega) (by omega)
      have hl' : LW m wd fr wh en o k I1 J1 := LW_of hlT (by rw [p 9 (by omega) (by omega)]) (p 10 (by omega) (by omega)) (p 11 (by omega) (by omega)) (p 12 (by omega) (by omega)) (p 13 (by omega) (by omega)) (p 14 (by omega) (by omega)) (by rw [q 81 (by omega) (by omega)]) (q 82 (by omega) (by omega)) (q 83 (by omega) (by omega)) (q 84 (by omega) (by omega)) (q 85 (by omega) (by omega)) (q 86 (by omega) (by omega)) (q 87 (by omega) (by omega))
      have ho' : RO mr la mv I1 J1 := RO_of hoT (u5.1 17 (by omega) (by omega) (by omega) (by omega)) (u5.1 18 (by omega) (by omega) (by omega) (by omega)) (u5.1 19 (by omega) (by omega) (by omega) (by omega)) (by rw [u6 72 (by omega) (by omega)]) (u6 89 (by omega) (by omega))
      obtain ⟨v, I', J', w1, w2, w3, w4⟩ := safe_loop g (a2 := a2) hd ht 4 1 0 (nI x' - nI y') (I1, M.2) (J1, N.2) (by omega) hc' (by dsimp only; rw [u6 73 (by omega) (by omega)]; exact hdT) hl' ho' (by omega)
      obtain ⟨s1, s2⟩ := small_t u1 u2
      obtain ⟨I0, e0⟩ : ∃ I0 : zI, X_X3_take g [.ref 40, .ref 7] M = some (none, (I0, M.2)) := ⟨_, x_X3_take_0 g M⟩
      rw [e0, zbV_s] at u3
      refine ⟨v, I', J', ?_, ?_, ⟨fun a b1 b2 b3 b4 => (w3.1 a b1 b2 b3 b4).trans (u5.1 a b1 b2 b3 b4), w3.2.trans u5.2⟩, fun a b1 b2 => (w4 a b1 b2).trans (u6 a b1 b2)⟩
      · rw [e_X11_safe_35, show cLt (0 : Int32) 5 = true from by decide, bif_t, e0, zbV_s, show X_X10_blameTomorrow g [.ref 6, .ref 40, .int (nI t), .int 0] (I0, M.2) = _ from u3, zbI_s, show cEq0 (0 : Int32) = true from by decide, bif_t]
        exact w1
      · rw [e_X12_safe_37, show cLt (0 : Int32) 5 = true from by decide, bif_t, show X_X12_blamedIn g [.ref 72, .int (nI t), .int 0] ((zu N.1 72 0 0), N.2) = _ from u4, zbI_s, s1, bif_t, lesser_s, zbI_s, s2, bif_f]
        exact w2
