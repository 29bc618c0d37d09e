/-! PURE ROWS: the law that was read is taken; a text of any kind -/
def tkL (I : zI) : zI := zcp (zcp (zcp (zcp (zcp (zu (zu I 9 8 (I 56 8)) 9 7 (I 56 7)) 57 10 (zx 16)) 58 11 (zx 16)) 59 12 (zx 16)) 60 13 (zx 16)) 61 14 (zx 400)
theorem takL_s (g : zg) (M : zM) : X_X4_take g [.ref 9, .ref 56] M = some (none, (tkL M.1, M.2)) := by
  rw [x_X4_take_0]
  rfl
theorem tkL_ne {I : zI} {a : Nat} (ha : a < 9 ∨ 14 < a) : tkL I a = I a := by
  unfold tkL
  rw [zcp_n (by omega), zcp_n (by omega), zcp_n (by omega), zcp_n (by omega), zcp_n (by omega), zu_ne (by omega), zu_ne (by omega)]
theorem tkL_98 {I : zI} : tkL I 9 8 = I 56 8 := by
  unfold tkL
  rw [zcp_n (by omega), zcp_n (by omega), zcp_n (by omega), zcp_n (by omega), zcp_n (by omega), zu_ne2 (by omega), zu_eq]
theorem tkL_LW {k s : Nat} {wd fr wh en : Nat → Nat} {I J J' : zI} (h : LLS k s wd fr wh en I J) (h81 : J' 81 0 = nI k) (h82 : ∀ a x, 82 ≤ a → a ≤ 85 → x < k → J' a x = J a (32 + x)) (h86 : ∀ a x, a = 86 ∨ a = 87 → x < s → J' a x = J a (800 + x)) : LW k wd fr wh en (oJ J) (kJ J) (tkL I) J' := by
  obtain ⟨z1, z2, zl, z3, z4⟩ := h
  have e16 : zx 16 = 16 := by decide
  have e400 : zx 400 = 400 := by decide
  have e10 : ∀ i, i < 16 → tkL I 10 i = I 57 i := by
    intro i hi
    unfold tkL
    rw [zcp_n (by omega), zcp_n (by omega), zcp_n (by omega), zcp_n (by omega), zcp_at, e16, if_pos hi, zu_ne1 (by omega), zu_ne1 (by omega)]
  have e11 : ∀ i, i < 16 → tkL I 11 i = I 58 i := by
    intro i hi
    unfold tkL
    rw [zcp_n (by omega), zcp_n (by omega), zcp_n (by omega), zcp_at, e16, if_pos hi, zcp_n (by omega), zu_ne1 (by omega), zu_ne1 (by omega)]
  have e12 : ∀ i, i < 16 → tkL I 12 i = I 59 i := by
    intro i hi
    unfold tkL
    rw [zcp_n (by omega), zcp_n (by omega), zcp_at, e16, if_pos hi, zcp_n (by omega), zcp_n (by omega), zu_ne1 (by omega), zu_ne1 (by omega)]
  have e13 : ∀ i, i < 16 → tkL I 13 i = I 60 i := by
    intro i hi
    unfold tkL
    rw [zcp_n (by omega), zcp_at, e16, if_pos hi, zcp_n (by omega), zcp_n (by omega), zcp_n (by omega), zu_ne1 (by omega), zu_ne1 (by omega)]
  have e14 : ∀ i, i < 400 → tkL I 14 i = I 61 i := by
    intro i hi
    unfold tkL
    rw [zcp_at, e400, if_pos hi, zcp_n (by omega), zcp_n (by omega), zcp_n (by omega), zcp_n (by omega), zu_ne1 (by omega), zu_ne1 (by omega)]
  have hs : s ≤ 400 := zl.1
  refine ⟨z1, tkL_98.trans z2, h81, fun l hl => ?_⟩
  obtain ⟨⟨a1, a2, a3⟩, ⟨b1, b2, b3, b4, b5, b6⟩, ⟨c1, c2, c3⟩, ⟨x, d1⟩, d2⟩ := z4 l hl
  rw [e10 l (by omega), e11 l (by omega), e12 l (by omega), e13 l (by omega), h82 82 l (by omega) (by omega) hl, h82 83 l (by omega) (by omega) hl, h82 84 l (by omega) (by omega) hl, h82 85 l (by omega) (by omega) hl]
  refine ⟨⟨a1, a2, a3⟩, ⟨b1, b2, b3, b4, b5, b6⟩, ⟨c1, c2, by omega⟩, ⟨x, d1.2⟩, fun u => (d2 u).2, fun j u1 u2 => ?_⟩
  rw [e14 j (by omega), h86 86 j (Or.inl rfl) (by omega), h86 87 j (Or.inr rfl) (by omega)]
  exact zl.2.2.2.1 j (by omega)
theorem k_textL (g : zg) {M : zM} (h : Inv g M.1) : OKc g (X_X11_text g [.ref 0, .int 0]) (X_X12_text g [.ref 72, .int 0]) M := by
  refine txt_OK h (fun N hN => ?_)
  obtain ⟨⟨n, s, nx, dd, ll, rf, c1, c2, c3, ⟨_, ⟨m2, la, mv, ho⟩, _⟩⟩, ⟨L, ⟨⟨tL, t15, t13, t2⟩, tb, tw⟩⟩, _⟩ := id h
  obtain ⟨ok, v, I1, J1, q1, q2, q3, q4, q5, q6, q7⟩ := readL_al g (L := L) (M := (tc0 M.1, M.2)) (N := ((zu (tx0 N.1) 72 26 0), N.2)) tL (tc0_6 (I := M.1)) (by dsimp only; rw [tc0_1 (by omega)]; exact t15) (fun k hk => by dsimp only; rw [tc0_ne (by omega)]; exact tb k hk) (fun k hk => by dsimp only; rw [tc0_ne (by omega), zu_ne (by omega), tx0_ne (by omega), hN 79 (by omega) (by omega)]; exact t2 k hk) (by dsimp only; rw [zu_ne2 (by omega), tx0_72 (by omega), hN 72 (by omega) (by omega)]; exact t13) (by dsimp only; rw [zu_ne2 (by omega)]; exact tx0_14.1) (by dsimp only; rw [zu_ne2 (by omega), zu_ne2 (by omega)]; exact ⟨tx0_14.2.2.2.1, tx0_14.2.2.2.2⟩) (fun k hk => by dsimp only; rw [zu_ne (by omega), tx0_ne (by omega), hN 80 (by omega) (by omega)]; exact tw k hk)
  dsimp only at q1 q2 q3 q4 q5
  have hr : X_X12_readsText g [.ref 72, .int 0] (tx0 N.1, N.2) = some (some (.int v), (J1, N.2)) := by
    rw [x_X12_readsText_0, show cEq (0 : Int32) 1 = false from rfl, show cEq (0 : Int32) 2 = false from rfl]
    simp only [bif_f]
    rw [zbV_zbI, q2, zbI_s]
  have cl : X_X11_text g [.ref 0, .int 0] M = (bif ok then (zbV (X_X4_take g [.ref 9, .ref 56] (I1, M.2)) (fun M3 => (zbI (X_X9_cut g [.ref 1, .int 0] M3) (fun x4 M4 => some (some (.int (M3.1 9 8)), M4))))) else (zbI (X_X9_cut g [.ref 1, .int 0] (I1, M.2)) (fun x6 M6 => some (some (.int (-1)), M6)))) := by
    rw [x_X11_text_0, x_X9_clearFault_0, zbV_s, show cEq0 (0 : Int32) = true from rfl, bif_t]
    unfold tc0 at q1
    rw [q1, zbI_s, cEq0_b01]
    cases ok
    · rw [Bool.not_false, bif_t, e_X11_text_55, show cEq (0 : Int32) 1 = false from rfl, bif_f, e_X11_text_109, show cEq (0 : Int32) 2 = false from rfl, bif_f]
      rfl
    · rfl
  have i15 : I1 1 5 = nI L := by rw [q4 5 (by omega) (by omega) (by omega), tc0_1 (by omega)]; exact t15
  have eI : ∀ a, a ≠ 1 → a ≠ 3 → a ≠ 4 → a ≠ 5 → (a < 56 ∨ 71 < a) → I1 a = M.1 a := fun a u1 u2 u3 u4 u5 => by rw [q3 a u1 u2 u3 u4 (by omega), tc0_ne u1]
  have e72 : ∀ k, k = 3 ∨ k = 5 ∨ k = 6 ∨ k = 7 ∨ k = 8 ∨ k = 35 ∨ k = 37 ∨ k = 43 ∨ k = 45 ∨ k = 47 ∨ k = 54 → J1 72 k = N.1 72 k := fun k hk => by rw [q5.2.1 k (by omega) (by omega) (by omega) (by omega) (by omega) (by omega) (by omega) (by omega) (by omega), zu_ne2 (by omega), tx0_72 (by omega)]
  have ea : ∀ b, b ≠ 72 → (b < 82 ∨ 88 < b) → J1 b = N.1 b := fun b u1 u2 => by rw [q5.1 b u1 u2, zu_ne u1, tx0_ne u1]
  have j26 : J1 72 26 = 0 := by rw [q5.2.1 26 (by omega) (by omega) (by omega) (by omega) (by omega) (by omega) (by omega) (by omega) (by omega), zu_eq]
  cases ok
  · obtain ⟨hv, hfl⟩ := q6 rfl
    subst hv
    rw [bif_f, cut0_s g (M := (I1, M.2)) tL i15, zbI_s] at cl
    dsimp only at cl
    refine ⟨-1, _, _, cl, txtM_f g (by decide) hr, TXQ_f h hN (fun a u1 u2 u3 u4 u5 => by rw [zu_ne u1, eI a u1 u2 u3 u4 u5]) zu_eq (fun a ha => by rw [zu_ne (by omega), zu_ne (by omega), zu_ne (by omega), ea a (by omega) (by omega)]) ?_ (fun k hk => by rw [zu_ne2 (by omega), zu_ne2 (by omega), zu_ne2 (by omega), e72 k (by omega)]) zu_eq ⟨?_, ?_⟩⟩
    · intro a k hc
      unfold cellM at hc
      by_cases e : a = 72
      · subst e
        rw [zu_ne2 (by omega), zu_ne2 (by omega), zu_ne2 (by omega), e72 k (by omega)]
      · rw [zu_ne e, zu_ne e, zu_ne e]
        by_cases e2 : 82 ≤ a ∧ a ≤ 85
        · rw [q5.2.2.1 a k (by omega) (by omega) (by omega), zu_ne e, tx0_ne e]
        · by_cases e3 : a = 86 ∨ a = 87
          · rw [q5.2.2.2 a k e3 (by omega), zu_ne e, tx0_ne e]
          · rw [ea a e (by omega)]
    · rw [zu_ne2 (by omega), zu_ne2 (by omega), zu_ne2 (by omega), zu_eq]
      exact hfl.1
    · rw [zu_ne2 (by omega), zu_ne2 (by omega), zu_eq]
      exact hfl.2
  · obtain ⟨q8, k', s', wd, fr, wh, en, hv, hrs⟩ := q7 rfl
    subst hv
    have hk' := hrs.1
    have hs' : s' ≤ 400 := hrs.2.2.1.1
    have j27 : J1 72 27 = nI s' := hrs.2.2.1.2.2.1
    obtain ⟨J2, r1, r2, r3⟩ := takL_2 g hk' k' 0 ((zu J1 72 13 0), N.2) (by omega) (by dsimp only; rw [zu_ne2 (by omega)]; exact j26)
    dsimp only at r1 r2 r3
    obtain ⟨J3, y1, y2, y3, y4⟩ := takL_107 g (n := k') hs' s' 0 (J2, N.2) (by omega) (by dsimp only; rw [r2 72 (by omega), zu_ne2 (by omega)]; exact j26) (by dsimp only; rw [r2 72 (by omega), zu_ne2 (by omega)]; exact j27)
    dsimp only at y1 y2 y4
    have tk : X_X12_takesLaw g [.ref 72, .int (nI k')] ((zu J1 72 13 0), N.2) = some (none, (J3, N.2)) := by
      rw [x_X12_takesLaw_0]
      exact r1.trans y1
    have hlw : LW k' wd fr wh en (oJ J1) (kJ J1) (tkL I1) J3 := tkL_LW hrs y3 (fun a x u1 u2 hx => by rw [y2 a (by omega) (by omega) (by omega), r3 a x u1 u2, if_pos (by omega), zu_ne1 (by omega)]) (fun a x u hx => by rw [y4 a x u, if_pos (by omega), r2 a (by omega), zu_ne1 (by omega)])
    rw [bif_t, takL_s, zbV_s, cut0_s g (M := (tkL I1, M.2)) (L := L) tL (by dsimp only; rw [tkL_ne (by omega)]; exact i15), zbI_s] at cl
    dsimp only at cl
    rw [hlw.2.1] at cl
    have j3 : ∀ k, J3 72 k = (zu J1 72 13 0) 72 k := fun k => by rw [y2 72 (by omega) (by omega) (by omega), r2 72 (by omega)]
    have f72 : ∀ k, k = 3 ∨ k = 5 ∨ k = 6 ∨ k = 7 ∨ k = 8 ∨ k = 35 ∨ k = 37 ∨ k = 43 ∨ k = 45 ∨ k = 47 ∨ k = 54 → J3 72 k = N.1 72 k := fun k hk => by rw [j3 k, zu_ne2 (by omega), e72 k hk]
    have fa : ∀ b, b ≠ 72 → (b < 81 ∨ 88 < b) → J3 b = N.1 b := fun b u1 u2 => by rw [y2 b (by omega) (by omega) (by omega), r2 b (by omega), zu_ne u1, ea b u1 (by omega)]
    have fI : ∀ a, a ≠ 1 → a ≠ 3 → a ≠ 4 → a ≠ 5 → (a < 56 ∨ 71 < a) → (a < 9 ∨ 14 < a) → (zu (tkL I1) 1 5 0) a = M.1 a := fun a u1 u2 u3 u4 u5 u6 => by rw [zu_ne u1, tkL_ne u6, eI a u1 u2 u3 u4 u5]
    have fR : ∀ a, 17 ≤ a → a ≤ 24 → (zu (tkL I1) 1 5 0) a = M.1 a := fun a u1 u2 => fI a (by omega) (by omega) (by omega) (by omega) (by omega) (by omega)
    refine ⟨nI k', _, J3, cl, txtM_l g (by omega) hr tk, ⟨fun a ha => fI a (by omega) (by omega) (by omega) (by omega) (by omega) (by omega), zu_eq⟩, ⟨fun a ha => fa a (by omega) (by omega), fun k hk => f72 k (by omega), ?_⟩, ⟨?_, ?_⟩, Or.inl ⟨fI 42 (by omega) (by omega) (by omega) (by omega) (by omega) (by omega), f72 3 (by omega)⟩, ⟨k', wd, fr, wh, en, _, _, LW_of hlw (zu_ne1 (by omega)) (zu_ne (by omega)) (zu_ne (by omega)) (zu_ne (by omega)) (zu_ne (by omega)) (zu_ne (by omega)) rfl rfl rfl rfl rfl rfl rfl⟩, ⟨m2, la, mv, RO_of ho (fR 17 (by omega) (by omega)) (fR 18 (by omega) (by omega)) (fR 19 (by omega) (by omega)) (by rw [f72 35 (by omega), hN 72 (by omega) (by omega)]) ((fa 89 (by omega) (by omega)).trans (hN 89 (by omega) (by omega)))⟩, ?_⟩
    · rw [j3 13, zu_eq]
    · rw [zu_ne2 (by omega), tkL_ne (by omega), j3 33, zu_ne2 (by omega), q5.2.1 33 (by omega) (by omega) (by omega) (by omega) (by omega) (by omega) (by omega) (by omega) (by omega), zu_ne2 (by omega), tx0_14.2.1]
      exact q8.1
    · rw [zu_ne2 (by omega), tkL_ne (by omega), j3 34, zu_ne2 (by omega), q5.2.1 34 (by omega) (by omega) (by omega) (by omega) (by omega) (by omega) (by omega) (by omega) (by omega), zu_ne2 (by omega), tx0_14.2.2.1]
      exact q8.2
    · rintro n' _ _ ⟨m, dy, wt, wm, mu, q⟩
      exact ⟨m, dy, wt, wm, mu, AG_of q (fR 20 (by omega) (by omega)) (fR 21 (by omega) (by omega)) (fR 22 (by omega) (by omega)) (fR 23 (by omega) (by omega)) (fR 24 (by omega) (by omega)) (f72 37 (by omega)) (fa 90 (by omega) (by omega))⟩
theorem k_text (g : zg) (a : Int32) {M : zM} (h : Inv g M.1) : OKc g (X_X11_text g [.ref 0, .int a]) (X_X12_text g [.ref 72, .int a]) M := by
  cases hb : inb a 0 2
  · exact k_textB g hb h
  · obtain ⟨k, hk, e⟩ := inb_ex (b := 2) (by omega) hb
    have e3 : k = 0 ∨ k = 1 ∨ k = 2 := by omega
    rcases e3 with e3 | e3 | e3 <;> subst e3 <;> subst e
    · exact k_textL g h
    · exact k_textR g h
    · exact k_textA g h
