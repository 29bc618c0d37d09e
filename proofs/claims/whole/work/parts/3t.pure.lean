/-! PURE ROWS: what a day keeps on both sides -/
theorem CR_fld {n : Nat} {cf cr rn md so fe : Nat → Int32} (h : CR n cf cr rn md so fe) {k j : Nat} {v w : Int32} (hk : (k = 3 ∧ j = 1 ∧ v = w) ∨ (k = 4 ∧ j = 3 ∧ v = w + 50) ∨ (k = 7 ∧ j = 4 ∧ v = w - 1) ∨ (k = 8 ∧ j = 5 ∧ v = w) ∨ (k = 9 ∧ j = 6 ∧ v = w) ∨ (k = 10 ∧ j = 0 ∧ v = w) ∨ (k = 11 ∧ j = 2 ∧ v = w)) : CR n (upd1 cf k v) cr (upd1 rn j w) md so fe := by
  obtain ⟨hn, a1, a2, a3, a4, a5, a6, a7, a8, a9, a10, a11, hc, he⟩ := id h
  rcases hk with ⟨rfl, rfl, rfl⟩ | ⟨rfl, rfl, rfl⟩ | ⟨rfl, rfl, rfl⟩ | ⟨rfl, rfl, rfl⟩ | ⟨rfl, rfl, rfl⟩ | ⟨rfl, rfl, rfl⟩ | ⟨rfl, rfl, rfl⟩ <;>
  (refine CR_flds h (fun j hj => upd1_ne (by omega)) ?_ ?_ ?_ ?_ ?_ ?_ ?_ ?_ ?_ ?_ ?_ <;> first | rfl | assumption)
theorem RG_up {n d j : Nat} {w : Int32} {rn so fe : Nat → Int32} (h : RG n d rn so fe) (h0 : j = 0 → w = nI d) (h3 : j = 3 → ∃ q, q ≤ 99 ∧ w = nI q - 50) (h4 : j = 4 → ∃ x, x ≤ n ∧ w = nI x) (hg : ∀ t, t < n → j = 18 + t → ∃ x, x ≤ 5 ∧ w = nI x) (hs : ∀ t, t < n → j = 28 + t → inb w (-999) 999 = true) (hd : ∀ t, t < n → j = 48 + t → ∃ x, x ≤ 5 ∧ w = nI x) : RG n d (upd1 rn j w) so fe := by
  obtain ⟨b0, b3, b4, bt⟩ := h
  refine ⟨?_, ?_, ?_, ?_⟩
  · by_cases e : 0 = j
    · subst e; rw [upd1_eq]; exact h0 rfl
    · rw [upd1_ne e]; exact b0
  · by_cases e : 3 = j
    · subst e; rw [upd1_eq]; exact h3 rfl
    · rw [upd1_ne e]; exact b3
  · by_cases e : 4 = j
    · subst e; rw [upd1_eq]; exact h4 rfl
    · rw [upd1_ne e]; exact b4
  · intro t ht
    obtain ⟨c1, c2, c3, c4⟩ := bt t ht
    refine ⟨?_, ?_, ?_, c4⟩
    · by_cases e : 18 + t = j
      · rw [e, upd1_eq]; exact hg t ht e.symm
      · rw [upd1_ne e]; exact c1
    · by_cases e : 28 + t = j
      · rw [e, upd1_eq]; exact hs t ht e.symm
      · rw [upd1_ne e]; exact c2
    · by_cases e : 48 + t = j
      · rw [e, upd1_eq]; exact hd t ht e.symm
      · rw [upd1_ne e]; exact c3
def PR (b : Bool) (c r n d : Nat) (I J : zI) : Prop := CRJ n c r I J ∧ RG n d (J 73) (J 76) (J 77) ∧ I c 0 = b01 b ∧ J 72 5 = b01 (!b) ∧ ∃ l, l ≤ 150 ∧ J 73 2 = nI l ∧ ∀ k, k < 4 * l → I 26 k = J 78 k
def PF (c r : Nat) (I I' : zI) : Prop := (∀ a, a ≠ c → a ≠ r → a ≠ 15 → a ≠ 16 → a ≠ 26 → I' a = I a) ∧ ∀ k, k = 0 ∨ k = 2 ∨ k = 5 ∨ k = 6 ∨ k = 12 → I' c k = I c k
/-- lines of the book only come to it -/
def LN (J J' : zI) : Prop := ∀ l, l ≤ 150 → J 73 2 = nI l → ∃ l', l ≤ l' ∧ l' ≤ 150 ∧ J' 73 2 = nI l'
theorem LN_eq {J J' : zI} (h : J' 73 2 = J 73 2) : LN J J' := fun l hl e => ⟨l, Nat.le_refl l, hl, h.trans e⟩
theorem LN_tr {J J1 J2 : zI} (h1 : LN J J1) (h2 : LN J1 J2) : LN J J2 := fun l hl e => by
  obtain ⟨l1, a1, a2, a3⟩ := h1 l hl e
  obtain ⟨l2, b1, b2, b3⟩ := h2 l1 a2 a3
  exact ⟨l2, by omega, b2, b3⟩
def QF (J J' : zI) : Prop := (∀ a, a ≠ 72 → a ≠ 73 → a ≠ 78 → a ≠ 91 → a ≠ 92 → J' a = J a) ∧ (∀ k, J' 72 k = J 72 k) ∧ (∀ k, k = 7 ∨ 58 ≤ k → J' 73 k = J 73 k) ∧ LN J J'
/-- a step on both sides -/
def ST (b : Bool) (c r n d : Nat) (I J I' J' : zI) : Prop := PR b c r n d I' J' ∧ PF c r I I' ∧ QF J J'
theorem PF_rfl {c r : Nat} {I : zI} : PF c r I I := ⟨fun _ _ _ _ _ _ => rfl, fun _ _ => rfl⟩
theorem QF_rfl {J : zI} : QF J J := ⟨fun _ _ _ _ _ _ => rfl, fun _ => rfl, fun _ _ => rfl, LN_eq rfl⟩
theorem ST_rfl {b : Bool} {c r n d : Nat} {I J : zI} (h : PR b c r n d I J) : ST b c r n d I J I J := ⟨h, PF_rfl, QF_rfl⟩
theorem PF_tr {c r : Nat} {I I1 I2 : zI} (h1 : PF c r I I1) (h2 : PF c r I1 I2) : PF c r I I2 := ⟨fun a b1 b2 b3 b4 b5 => (h2.1 a b1 b2 b3 b4 b5).trans (h1.1 a b1 b2 b3 b4 b5), fun k hk => (h2.2 k hk).trans (h1.2 k hk)⟩
theorem QF_tr {I I1 I2 : zI} (h1 : QF I I1) (h2 : QF I1 I2) : QF I I2 := ⟨fun a b1 b2 b3 b4 b5 => (h2.1 a b1 b2 b3 b4 b5).trans (h1.1 a b1 b2 b3 b4 b5), fun k => (h2.2.1 k).trans (h1.2.1 k), fun k hk => (h2.2.2.1 k hk).trans (h1.2.2.1 k hk), LN_tr h1.2.2.2 h2.2.2.2⟩
theorem ST_tr {b : Bool} {c r n d : Nat} {I J I1 J1 I2 J2 : zI} (h1 : ST b c r n d I J I1 J1) (h2 : ST b c r n d I1 J1 I2 J2) : ST b c r n d I J I2 J2 := ⟨h2.1, PF_tr h1.2.1 h2.2.1, QF_tr h1.2.2 h2.2.2⟩
theorem LW_st {m : Nat} {wd fr wh en o k : Nat → Nat} {c r : Nat} (hcr : CO c r) {I J I' J' : zI} (h : LW m wd fr wh en o k I J) (h1 : PF c r I I') (h2 : QF J J') : LW m wd fr wh en o k I' J' := by
  have p : ∀ a, 9 ≤ a → a ≤ 14 → I' a = I a := fun a u1 u2 => h1.1 a (by rcases hcr with ⟨rfl, rfl⟩ | ⟨rfl, rfl⟩ <;> omega) (by rcases hcr with ⟨rfl, rfl⟩ | ⟨rfl, rfl⟩ <;> omega) (by omega) (by omega) (by omega)
  have q : ∀ a, 81 ≤ a → a ≤ 87 → J' a = J a := fun a u1 u2 => h2.1 a (by omega) (by omega) (by omega) (by omega) (by omega)
  exact LW_of h (by rw [p 9 (by omega) (by omega)]) (p 10 (by omega) (by omega)) (p 11 (by omega) (by omega)) (p 12 (by omega) (by omega)) (p 13 (by omega) (by omega)) (p 14 (by omega) (by omega)) (by rw [q 81 (by omega) (by omega)]) (q 82 (by omega) (by omega)) (q 83 (by omega) (by omega)) (q 84 (by omega) (by omega)) (q 85 (by omega) (by omega)) (q 86 (by omega) (by omega)) (q 87 (by omega) (by omega))
theorem RO_st {m : Nat} {la : Nat → Nat} {mv : Nat → Int32} {c r : Nat} (hcr : CO c r) {I J I' J' : zI} (h : RO m la mv I J) (h1 : PF c r I I') (h2 : QF J J') : RO m la mv I' J' := by
  have p : ∀ a, 17 ≤ a → a ≤ 19 → I' a = I a := fun a u1 u2 => h1.1 a (by rcases hcr with ⟨rfl, rfl⟩ | ⟨rfl, rfl⟩ <;> omega) (by rcases hcr with ⟨rfl, rfl⟩ | ⟨rfl, rfl⟩ <;> omega) (by omega) (by omega) (by omega)
  exact RO_of h (p 17 (by omega) (by omega)) (p 18 (by omega) (by omega)) (p 19 (by omega) (by omega)) (h2.2.1 35) (h2.1 89 (by omega) (by omega) (by omega) (by omega) (by omega))
theorem ST_cell {b : Bool} {c r n d : Nat} (hcr : CO c r) {I J : zI} (h : PR b c r n d I J) {t k : Nat} {v w : Int32} (ht : t < n) (h2 : 2 ≤ k) (hk : k < 7) (hw : v = w - (if k = 3 ∨ k = 6 then 1 else 0)) (h3 : k = 3 → ∃ x, x ≤ 5 ∧ w = nI x) (h4 : k = 4 → inb w (-999) 999 = true) (h6 : k = 6 → ∃ x, x ≤ 5 ∧ w = nI x) : ST b c r n d I J (zu I r (7 * t + k) v) (zu J 73 (10 * k - 12 + t) w) := by
  obtain ⟨p1, p2, p3, p4, l, hl, p5, p6⟩ := h
  have hn := p1.1
  have hc1 : c ≠ r := by rcases hcr with ⟨rfl, rfl⟩ | ⟨rfl, rfl⟩ <;> omega
  have hc2 : 26 ≠ r := by rcases hcr with ⟨rfl, rfl⟩ | ⟨rfl, rfl⟩ <;> omega
  refine ⟨⟨?_, ?_, ?_, ?_, l, hl, ?_, ?_⟩, ⟨?_, ?_⟩, ⟨?_, ?_, ?_, ?_⟩⟩
  · unfold CRJ
    rw [zu_ne hc1, zu_upd, zu_upd, zu_ne (show 72 ≠ 73 by omega), zu_ne (show 76 ≠ 73 by omega), zu_ne (show 77 ≠ 73 by omega)]
    exact CR_cell p1 ht h2 hk hw
  · rw [zu_upd, zu_ne (show 76 ≠ 73 by omega), zu_ne (show 77 ≠ 73 by omega)]
    exact RG_up p2 (by omega) (by omega) (by omega) (fun t' _ e => h3 (by omega)) (fun t' _ e => h4 (by omega)) (fun t' _ e => h6 (by omega))
  · rw [zu_ne hc1]; exact p3
  · rw [zu_ne (show 72 ≠ 73 by omega)]; exact p4
  · rw [zu_ne2 (by omega)]; exact p5
  · rw [zu_ne hc2, zu_ne (show 78 ≠ 73 by omega)]; exact p6
  · intro a _ b2 _ _ _; exact zu_ne b2
  · intro k' _; rw [zu_ne hc1]
  · intro a _ b2 _ _ _; exact zu_ne b2
  · intro k'; rw [zu_ne (show 72 ≠ 73 by omega)]
  · intro k' hk'; rw [zu_ne2 (by omega)]
  · exact LN_eq (by rw [zu_ne2 (by omega)])
theorem ST_fld {b : Bool} {c r n d : Nat} (hcr : CO c r) {I J : zI} (h : PR b c r n d I J) {k j : Nat} {v w : Int32} (hkj : (k = 3 ∧ j = 1 ∧ v = w) ∨ (k = 4 ∧ j = 3 ∧ v = w + 50) ∨ (k = 7 ∧ j = 4 ∧ v = w - 1) ∨ (k = 8 ∧ j = 5 ∧ v = w) ∨ (k = 9 ∧ j = 6 ∧ v = w)) (h3 : j = 3 → ∃ q, q ≤ 99 ∧ w = nI q - 50) (h4 : j = 4 → ∃ x, x ≤ n ∧ w = nI x) : ST b c r n d I J (zu I c k v) (zu J 73 j w) := by
  obtain ⟨p1, p2, p3, p4, l, hl, p5, p6⟩ := h
  have hc1 : r ≠ c := by rcases hcr with ⟨rfl, rfl⟩ | ⟨rfl, rfl⟩ <;> omega
  have hc2 : 26 ≠ c := by rcases hcr with ⟨rfl, rfl⟩ | ⟨rfl, rfl⟩ <;> omega
  have hj : j = 1 ∨ j = 3 ∨ j = 4 ∨ j = 5 ∨ j = 6 := by clear h3 h4; omega
  have hk : k = 3 ∨ k = 4 ∨ k = 7 ∨ k = 8 ∨ k = 9 := by clear h3 h4; omega
  refine ⟨⟨?_, ?_, ?_, ?_, l, hl, ?_, ?_⟩, ⟨?_, ?_⟩, ⟨?_, ?_, ?_, ?_⟩⟩
  · unfold CRJ
    rw [zu_ne hc1, zu_upd, zu_upd, zu_ne (show 72 ≠ 73 by omega), zu_ne (show 76 ≠ 73 by omega), zu_ne (show 77 ≠ 73 by omega)]
    refine CR_fld p1 ?_
    rcases hkj with h | h | h | h | h
    · exact Or.inl h
    · exact Or.inr (Or.inl h)
    · exact Or.inr (Or.inr (Or.inl h))
    · exact Or.inr (Or.inr (Or.inr (Or.inl h)))
    · exact Or.inr (Or.inr (Or.inr (Or.inr (Or.inl h))))
  · rw [zu_upd, zu_ne (show 76 ≠ 73 by omega), zu_ne (show 77 ≠ 73 by omega)]
    exact RG_up p2 (by omega) h3 h4 (by omega) (by omega) (by omega)
  · rw [zu_ne2 (by omega)]; exact p3
  · rw [zu_ne (show 72 ≠ 73 by omega)]; exact p4
  · rw [zu_ne2 (by omega)]; exact p5
  · rw [zu_ne hc2, zu_ne (show 78 ≠ 73 by omega)]; exact p6
  · intro a b1 _ _ _ _; exact zu_ne b1
  · intro k' _; rw [zu_ne2 (by omega)]
  · intro a _ b2 _ _ _; exact zu_ne b2
  · intro k'; rw [zu_ne (show 72 ≠ 73 by omega)]
  · intro k' hk'; rw [zu_ne2 (by omega)]
  · exact LN_eq (by rw [zu_ne2 (by omega)])
theorem ST_scr {b : Bool} {c r n d : Nat} (hcr : CO c r) {I J : zI} (h : PR b c r n d I J) (f1 s1 f2 s2 : Nat → Int32) : ST b c r n d I J (zr (zr I 16 f1) 15 s1) (zr (zr J 91 f2) 92 s2) := by
  have e : ∀ a, a ≠ 15 → a ≠ 16 → zr (zr I 16 f1) 15 s1 a = I a := fun a u1 u2 => by rw [zr_ne u1, zr_ne u2]
  have e' : ∀ a, a ≠ 91 → a ≠ 92 → zr (zr J 91 f2) 92 s2 a = J a := fun a u1 u2 => by rw [zr_ne u2, zr_ne u1]
  have hc1 : c ≠ 15 ∧ c ≠ 16 ∧ r ≠ 15 ∧ r ≠ 16 := by rcases hcr with ⟨rfl, rfl⟩ | ⟨rfl, rfl⟩ <;> omega
  obtain ⟨p1, p2, p3, p4, l, hl, p5, p6⟩ := h
  refine ⟨⟨?_, ?_, ?_, ?_, l, hl, ?_, ?_⟩, ⟨?_, ?_⟩, ⟨?_, ?_, ?_, ?_⟩⟩
  · unfold CRJ
    rw [e c hc1.1 hc1.2.1, e r hc1.2.2.1 hc1.2.2.2, e' 73 (by omega) (by omega), e' 72 (by omega) (by omega), e' 76 (by omega) (by omega), e' 77 (by omega) (by omega)]
    exact p1
  · rw [e' 73 (by omega) (by omega), e' 76 (by omega) (by omega), e' 77 (by omega) (by omega)]; exact p2
  · rw [e c hc1.1 hc1.2.1]; exact p3
  · rw [e' 72 (by omega) (by omega)]; exact p4
  · rw [e' 73 (by omega) (by omega)]; exact p5
  · rw [e 26 (by omega) (by omega), e' 78 (by omega) (by omega)]; exact p6
  · intro a _ _ b3 b4 _; exact e a b3 b4
  · intro k _; rw [e c hc1.1 hc1.2.1]
  · intro a _ _ _ b4 b5; exact e' a b4 b5
  · intro k; rw [e' 72 (by omega) (by omega)]
  · intro k _; rw [e' 73 (by omega) (by omega)]
  · exact LN_eq (by rw [e' 73 (by omega) (by omega)])
theorem upd4 {f h : Nat → Int32} {l : Nat} {a0 a1 a2 a3 : Int32} (hf : ∀ k, k < 4 * l → f k = h k) : ∀ k, k < 4 * (l + 1) → upd1 (upd1 (upd1 (upd1 f (4 * l) a0) (4 * l + 1) a1) (4 * l + 2) a2) (4 * l + 3) a3 k = upd1 (upd1 (upd1 (upd1 h (4 * l) a0) (4 * l + 1) a1) (4 * l + 2) a2) (4 * l + 3) a3 k := by
  intro k hk
  by_cases h3 : k = 4 * l + 3
  · rw [h3, upd1_eq, upd1_eq]
  · rw [upd1_ne h3, upd1_ne h3]
    by_cases h2 : k = 4 * l + 2
    · rw [h2, upd1_eq, upd1_eq]
    · rw [upd1_ne h2, upd1_ne h2]
      by_cases h1 : k = 4 * l + 1
      · rw [h1, upd1_eq, upd1_eq]
      · rw [upd1_ne h1, upd1_ne h1]
        by_cases h0 : k = 4 * l
        · rw [h0, upd1_eq, upd1_eq]
        · rw [upd1_ne h0, upd1_ne h0]
          exact hf k (by omega)
/-- a line of the book on both sides -/
theorem note_alk (g : zg) {b : Bool} {c r n d : Nat} (hcr : CO c r) (a2 a3 a4 : Int32) {M N : zM} (h : PR b c r n d M.1 N.1) : ∃ I' J', X_X1_write g [.ref 25, .ref c, .int a2, .int a3, .int a4] M = some (none, (I', M.2)) ∧ X_X12_notes g [.ref 72, .int a2, .int a3, .int a4] N = some (none, (J', N.2)) ∧ ST b c r n d M.1 N.1 I' J' ∧ ∀ k, k ≠ 2 → J' 73 k = N.1 73 k := by
  have key : X_X1_write g [.ref 25, .ref c, .int a2, .int a3, .int a4] M = (bif cEq0 (M.1 c 0) then some (none, M) else (zbI (X_X11_within g [.int (M.1 c 11), .int 0, .int 149] M) (fun x1 M1 => (bif cEq0 x1 then some (none, M1) else (bif zb ((M1.1 c 11) * 4) 600 then (bif zb (((M1.1 c 11) * 4) + 1) 600 then (bif zb (((M1.1 c 11) * 4) + 2) 600 then (bif zb (((M1.1 c 11) * 4) + 3) 600 then some (none, ((zu (zu (zu (zu (zu M1.1 26 (zx ((M1.1 c 11) * 4)) (M1.1 c 10)) 26 (zx (((M1.1 c 11) * 4) + 1)) a2) 26 (zx (((M1.1 c 11) * 4) + 2)) a3) 26 (zx (((M1.1 c 11) * 4) + 3)) a4) c 11 ((M1.1 c 11) + 1)), M1.2)) else none) else none) else none) else none))))) := by
    rcases hcr with ⟨rfl, rfl⟩ | ⟨rfl, rfl⟩
    · exact x_X1_write_0 g a2 a3 a4 M
    · exact x_X1_write_0_1 g a2 a3 a4 M
  have h' := h
  obtain ⟨p1, p2, p3, p4, l, hl, p5, p6⟩ := h
  obtain ⟨_, _, _, _, _, _, _, _, _, _, a10, a11⟩ := CR_f p1
  rw [key, x_X12_notes_0, p3, p4, cEq0_b01, cEq0_b01, Bool.not_not]
  cases b with
  | false => exact ⟨M.1, N.1, rfl, rfl, ST_rfl h', fun _ _ => rfl⟩
  | true =>
    rw [Bool.not_true, bif_f, bif_t, within_s, zbI_s, a11, p5, cEq0_b01]
    by_cases h150 : l = 150
    · subst h150
      exact ⟨M.1, N.1, rfl, rfl, ST_rfl h', fun _ _ => rfl⟩
    · have hin : inb (nI l) 0 149 = true := (inb_nI (k := l) (a := 0) (b := 149) (by omega) (by omega) (by omega)).trans (by simp; omega)
      have e4 : nI l * 4 = nI (4 * l) := by
        have := ix4 l 0
        rw [show nI l * 4 + nI 0 = nI l * 4 from Int32.add_zero _] at this
        exact this
      have e4' : 4 * nI l = nI (4 * l) := by rw [Int32.mul_comm]; exact e4
      have e1 : nI (4 * l) + 1 = nI (4 * l + 1) := nI_s1 _
      have e2 : nI (4 * l) + 2 = nI (4 * l + 2) := nI_ad2 (4 * l) 2
      have e3 : nI (4 * l) + 3 = nI (4 * l + 3) := nI_ad2 (4 * l) 3
      rw [hin, Bool.not_true, bif_f, cEq_lit (m := l) (k := 150) (y := 150) (by omega) (by omega) rfl, decide_eq_false h150, bif_f, e4, e4', e1, e2, e3, zbT (by omega) (by omega), bif_t, zbT (by omega) (by omega), bif_t, zbT (by omega) (by omega), bif_t, zbT (by omega) (by omega), bif_t, bif_t, bif_t, bif_t, bif_t, zx_nI (by omega), zx_nI (by omega), zx_nI (by omega), zx_nI (by omega), nI_s1, a10]
      have hc1 : r ≠ c := by rcases hcr with ⟨rfl, rfl⟩ | ⟨rfl, rfl⟩ <;> omega
      have hc2 : 26 ≠ c := by rcases hcr with ⟨rfl, rfl⟩ | ⟨rfl, rfl⟩ <;> omega
      have hc3 : r ≠ 26 := by rcases hcr with ⟨rfl, rfl⟩ | ⟨rfl, rfl⟩ <;> omega
      refine ⟨_, _, rfl, rfl, ⟨⟨?_, ?_, ?_, ?_, l + 1, by omega, ?_, ?_⟩, ⟨?_, ?_⟩, ⟨?_, ?_, ?_, ?_⟩⟩, ?_⟩
      · unfold CRJ
        rw [zu_upd, zu_ne hc1, zu_ne hc3, zu_ne hc3, zu_ne hc3, zu_ne hc3, zu_ne hc2.symm, zu_ne hc2.symm, zu_ne hc2.symm, zu_ne hc2.symm, zu_upd]
        simp only [zu_ne (show 73 ≠ 78 by omega), zu_ne (show 72 ≠ 78 by omega), zu_ne (show 72 ≠ 73 by omega), zu_ne (show 76 ≠ 78 by omega), zu_ne (show 76 ≠ 73 by omega), zu_ne (show 77 ≠ 78 by omega), zu_ne (show 77 ≠ 73 by omega)]
        exact CR_fld p1 (Or.inr (Or.inr (Or.inr (Or.inr (Or.inr (Or.inr ⟨rfl, rfl, rfl⟩))))))
      · rw [zu_upd]
        simp only [zu_ne (show 73 ≠ 78 by omega), zu_ne (show 76 ≠ 78 by omega), zu_ne (show 76 ≠ 73 by omega), zu_ne (show 77 ≠ 78 by omega), zu_ne (show 77 ≠ 73 by omega)]
        exact RG_up p2 (by omega) (by omega) (by omega) (by omega) (by omega) (by omega)
      · rw [zu_ne2 (by omega), zu_ne hc2.symm, zu_ne hc2.symm, zu_ne hc2.symm, zu_ne hc2.symm]; exact p3
      · rw [zu_ne (show 72 ≠ 73 by omega)]
        simp only [zu_ne (show 72 ≠ 78 by omega)]
        exact p4
      · exact zu_eq
      · rw [zu_ne hc2, zu_ne (show 78 ≠ 73 by omega)]
        simp only [zu_upd]
        exact upd4 p6
      · intro a b1 b2 b3 b4 b5
        rw [zu_ne b1, zu_ne b5, zu_ne b5, zu_ne b5, zu_ne b5]
      · intro k hk
        rw [zu_ne2 (by omega), zu_ne hc2.symm, zu_ne hc2.symm, zu_ne hc2.symm, zu_ne hc2.symm]
      · intro a b1 b2 b3 b4 b5
        rw [zu_ne b2, zu_ne b3, zu_ne b3, zu_ne b3, zu_ne b3]
      · intro k
        rw [zu_ne (show 72 ≠ 73 by omega)]
        simp only [zu_ne (show 72 ≠ 78 by omega)]
      · intro k hk
        rw [zu_ne2 (by omega)]
        simp only [zu_ne (show 73 ≠ 78 by omega)]
      · intro l0 h0 e0
        have el : l0 = l := (nI_eq (by omega) (by omega)).mp (e0.symm.trans p5)
        exact ⟨l + 1, by omega, by omega, zu_eq⟩
      · intro k hk
        rw [zu_ne2 hk]
        simp only [zu_ne (show 73 ≠ 78 by omega)]
theorem note_al (g : zg) {b : Bool} {c r n d : Nat} (hcr : CO c r) (a2 a3 a4 : Int32) {M N : zM} (h : PR b c r n d M.1 N.1) : ∃ I' J', X_X1_write g [.ref 25, .ref c, .int a2, .int a3, .int a4] M = some (none, (I', M.2)) ∧ X_X12_notes g [.ref 72, .int a2, .int a3, .int a4] N = some (none, (J', N.2)) ∧ ST b c r n d M.1 N.1 I' J' := by
  obtain ⟨I', J', q1, q2, q3, _⟩ := note_alk g hcr a2 a3 a4 h
  exact ⟨I', J', q1, q2, q3⟩
