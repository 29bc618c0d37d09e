/-! PURE ROWS: calls that change the court or what is kept beside it -/
theorem W_v {n : Nat} {I J I' J' : zI} (h3 : WRn n I J) (h4 : WRo I J) (hI : ∀ a, (9 ≤ a ∧ a ≤ 24 ∧ a ≠ 15 ∧ a ≠ 16) ∨ (32 ≤ a ∧ a ≤ 38) → I' a = I a) (hJ : ∀ a, (81 ≤ a ∧ a ≤ 87) ∨ a = 89 ∨ a = 90 ∨ (93 ≤ a ∧ a ≤ 96) ∨ a = 99 → J' a = J a) (h72 : ∀ k, k = 35 ∨ k = 37 ∨ k = 43 ∨ k = 45 ∨ k = 47 → J' 72 k = J 72 k) : WRn n I' J' ∧ WRo I' J' := by
  obtain ⟨⟨m1, dy, wt, wm, mu, ha⟩, m2, wo, wm2, hu⟩ := h3
  obtain ⟨⟨m3, wd, fr, wh, en, o, k, hl⟩, ⟨m4, la, mv, ho⟩, ⟨m5, hs⟩, ⟨m6, hp⟩, hx⟩ := h4
  have e9 := hI 9 (by omega)
  have e32 := hI 32 (by omega)
  have e81 := hJ 81 (by omega)
  refine ⟨⟨⟨m1, dy, wt, wm, mu, AG_of ha (hI 20 (by omega)) (hI 21 (by omega)) (hI 22 (by omega)) (hI 23 (by omega)) (hI 24 (by omega)) (h72 37 (by omega)) (hJ 90 (by omega))⟩, m2, wo, wm2, UM_x hu (by rw [e32]) (fun j _ => ⟨by rw [hI 34 (by omega)], by rw [hI 35 (by omega)]⟩) (h72 45 (by omega)) (fun j _ => by rw [hJ 94 (by omega)])⟩, ⟨m3, wd, fr, wh, en, o, k, LW_of hl (by rw [e9]) (hI 10 (by omega)) (hI 11 (by omega)) (hI 12 (by omega)) (hI 13 (by omega)) (hI 14 (by omega)) (by rw [e81]) (hJ 82 (by omega)) (hJ 83 (by omega)) (hJ 84 (by omega)) (hJ 85 (by omega)) (hJ 86 (by omega)) (hJ 87 (by omega))⟩, ⟨m4, la, mv, RO_of ho (hI 17 (by omega)) (hI 18 (by omega)) (hI 19 (by omega)) (h72 35 (by omega)) (hJ 89 (by omega))⟩, ⟨m5, SE_x hs (by rw [e32]) (fun j _ => by rw [hI 33 (by omega)]) (h72 43 (by omega)) (fun j _ => by rw [hJ 93 (by omega)])⟩, ⟨m6, PO_x hp (by rw [e32]) (fun j _ => ⟨by rw [hI 36 (by omega)], by rw [hI 37 (by omega)]⟩) (h72 47 (by omega)) (fun j _ => ⟨by rw [hJ 95 (by omega)], by rw [hJ 96 (by omega)]⟩)⟩, MX_x hx (fun j _ => by rw [hI 38 (by omega)]) (fun j _ => by rw [hJ 99 (by omega)])⟩
/-- what every call leaves -/
def FI (I I' : zI) : Prop := (∀ a, a = 1 ∨ a = 2 ∨ 72 ≤ a → I' a = I a) ∧ I' 40 0 = I 40 0
def FJ (J J' : zI) : Prop := (∀ a, a < 72 ∨ a = 79 ∨ a = 80 ∨ 100 ≤ a → J' a = J a) ∧ ∀ k, k = 13 ∨ k = 33 ∨ k = 34 ∨ k = 54 → J' 72 k = J 72 k
theorem FI_r (I : zI) : FI I I := ⟨fun _ _ => rfl, rfl⟩
theorem FI_u {I I' : zI} {a k : Nat} {v : Int32} (h : FI I I') (ha : a ≠ 1 ∧ a ≠ 2 ∧ a < 72 ∧ a ≠ 40) : FI I (zu I' a k v) := ⟨fun b hb => (zu_ne (by omega)).trans (h.1 b hb), (zu_ne1 (by omega)).trans h.2⟩
theorem FJ_t (J : zI) : FJ J (zu J 72 0 0) := ⟨fun b hb => zu_ne (by omega), fun k hk => zu_ne2 (by omega)⟩
theorem FJ_u {J J' : zI} {a k : Nat} {v : Int32} (h : FJ J J') (ha : 72 < a ∧ a < 100 ∧ a ≠ 79 ∧ a ≠ 80) : FJ J (zu J' a k v) := ⟨fun b hb => (zu_ne (by omega)).trans (h.1 b hb), fun j hj => (zu_ne1 (by omega)).trans (h.2 j hj)⟩
theorem FJ_f {J J' : zI} {k : Nat} {v : Int32} (h : FJ J J') (hk : k ≠ 13 ∧ k ≠ 33 ∧ k ≠ 34 ∧ k ≠ 54) : FJ J (zu J' 72 k v) := ⟨fun b hb => (zu_ne (by omega)).trans (h.1 b hb), fun j hj => (zu_ne2 (by omega)).trans (h.2 j hj)⟩
theorem OK_st {g : zg} {XC XM : zM → Option (Option Value × zM)} {M : zM} (h : Inv g M.1) (hs : ∀ (n s nx : Nat) (dd ll rf : Nat → Nat) (N : zM), CORE n s nx dd ll rf M.1 N.1 → ∃ v I' J', XC M = some (some (.int v), (I', M.2)) ∧ XM N = some (some (.int v), (J', N.2)) ∧ FI M.1 I' ∧ FJ N.1 J' ∧ ∃ n' s' nx' dd' ll' rf', CORE n' s' nx' dd' ll' rf' I' J') : OKc g XC XM M := by
  obtain ⟨⟨n, s, nx, dd, ll, rf, hcore⟩, _⟩ := id h
  obtain ⟨v, I', J', q1, q2, q3, q4, n', s', nx', dd', ll', rf', q5⟩ := two_step (XC := XC) (XM := XM) (M := M) (P := fun J => CORE n s nx dd ll rf M.1 J) (Q := fun I' J J' => FI M.1 I' ∧ FJ J J' ∧ ∃ n' s' nx' dd' ll' rf', CORE n' s' nx' dd' ll' rf' I' J') (fun N hN => hs n s nx dd ll rf N hN) hcore (by
    rintro I' J' ⟨e, _⟩
    exact CORE_J hcore (fun a u1 u2 => e.1 a (by omega)))
  have t : ∀ a, a = 1 ∨ a = 2 ∨ a = 79 ∨ a = 80 ∨ 100 ≤ a → J' a = M.1 a := fun a ha => (q4.1 a (by omega)).trans (q3.1 a (by omega))
  refine ⟨v, I', M.2, J', q1, q2, Inv_new h q5 (fun a ha => q4.1 a (by omega)) (t 1 (by omega)) (t 2 (by omega)) (t 79 (by omega)) (fun k hk => ?_) ?_ (fun a u1 _ => t a (by omega)) (t 100 (by omega)) (t 80 (by omega))⟩
  · rw [q4.2 k hk, q3.1 72 (by omega)]
  · rw [q4.1 40 (by omega)]
    exact q3.2
theorem k_act (g : zg) (a1 a2 a3 : Int32) {M : zM} (h : Inv g M.1) : OKc g (X_X11_act g [.ref 0, .int a1, .int a2, .int a3]) (X_X12_act g [.ref 72, .int a1, .int a2, .int a3]) M := by
  refine OK_st h (fun n s nx dd ll rf N hN => ?_)
  obtain ⟨c1, c2, c3, c4⟩ := hN
  obtain ⟨v, I', J', s', nx', dd', ll', rf', q1, q2, q3, q4, q5, q6⟩ := act_al g a1 a2 a3 c1 c2
  have w := W_v (I' := I') (J' := J') c3 c4 (fun a ha => q3 a (by omega) (by omega) (by omega) (by omega) (by omega) (by omega) (by omega) (by omega) (by omega)) (fun a ha => q4.1 a (by omega) (by omega) (by omega) (by omega) (by omega) (by omega)) (fun k hk => q4.2 k (by omega) (by omega) (by omega) (by omega))
  exact ⟨v, I', J', q1, q2, ⟨fun a ha => q3 a (by omega) (by omega) (by omega) (by omega) (by omega) (by omega) (by omega) (by omega) (by omega), by rw [q3 40 (by omega) (by omega) (by omega) (by omega) (by omega) (by omega) (by omega) (by omega) (by omega)]⟩, ⟨fun a ha => q4.1 a (by omega) (by omega) (by omega) (by omega) (by omega) (by omega), fun k hk => q4.2 k (by omega) (by omega) (by omega) (by omega)⟩, n, s', nx', dd', ll', rf', q5, q6, w.1, w.2⟩
theorem k_undo (g : zg) {M : zM} (h : Inv g M.1) : OKc g (X_X11_undo g [.ref 0]) (X_X12_undo g [.ref 72]) M := by
  refine OK_st h (fun n s nx dd ll rf N hN => ?_)
  obtain ⟨c1, c2, c3, c4⟩ := hN
  obtain ⟨v, I', J', s', nx', dd', ll', rf', q1, q2, q3, q4, q4', q5, q6⟩ := undo_al g c1 c2
  have w := W_v (I' := I') (J' := J') c3 c4 (fun a ha => q3 a (by omega) (by omega) (by omega)) (fun a ha => q4 a (by omega) (by omega)) (fun k hk => q4' k (by omega) (by omega))
  exact ⟨v, I', J', q1, q2, ⟨fun a ha => q3 a (by omega) (by omega) (by omega), by rw [q3 40 (by omega) (by omega) (by omega)]⟩, ⟨fun a ha => q4 a (by omega) (by omega), fun k hk => q4' k (by omega) (by omega)⟩, n, s', nx', dd', ll', rf', q5, q6, w.1, w.2⟩
theorem k_goes (g : zg) (a1 a2 : Int32) {M : zM} (h : Inv g M.1) : OKc g (X_X11_goes g [.ref 0, .int a1, .int a2]) (X_X12_goes g [.ref 72, .int a1, .int a2]) M := by
  refine OK_st h (fun n s nx dd ll rf N hN => ?_)
  obtain ⟨c1, c2, c3, c4⟩ := hN
  obtain ⟨⟨m1, dy, wt, wm, mu, ha⟩, _⟩ := id c3
  obtain ⟨⟨m3, wd, fr, wh, en, o, k, hl⟩, ⟨m4, la, mv, ho⟩, _⟩ := id c4
  obtain ⟨v, I', J', q1, q2, q3, q4, q4', q5, q6⟩ := goes_al g a1 a2 c1 c2 hl ho ha h.2.2.2.1
  have w := W_v (I' := I') (J' := J') c3 c4 (fun a ha => q3.1 a (by omega) (by omega) (by omega) (by omega) (by omega)) (fun a ha => q4 a (by omega) (by omega) (by omega) (by omega) (by omega) (by omega)) (fun k hk => q4' k (by omega) (by omega) (by omega))
  exact ⟨v, I', J', q1, q2, ⟨fun a ha => q3.1 a (by omega) (by omega) (by omega) (by omega) (by omega), q3.2⟩, ⟨fun a ha => q4 a (by omega) (by omega) (by omega) (by omega) (by omega) (by omega), fun k hk => q4' k (by omega) (by omega) (by omega)⟩, n, s, nx, dd, ll, rf, q5, q6, w.1, w.2⟩
/-- the court is another, all that could be undone is gone -/
theorem CU_new {n n' d l rr : Nat} {I J I' J' : zI} (h : CU n d l rr I J) (hc : CRJ n' 7 8 I' J') (hr : RG n' d (J' 73) (J' 76) (J' 77)) (h0 : I' 7 0 = I 7 0) (h12 : I' 7 12 = I 7 12) (h26 : I' 26 = I 26) (h28 : I' 28 = I 28) (h29 : I' 29 = I 29) (m5 : J' 72 5 = J 72 5) (h73 : ∀ k, k = 2 ∨ k = 7 ∨ 58 ≤ k → J' 73 k = J 73 k) (h78 : J' 78 = J 78) : CU n' d l rr I' J' := by
  obtain ⟨⟨_, _, p3, p4, l', p5, p6, p7⟩, ⟨p8, p9⟩, p10, p11, p12, cd, ca, p13, p14⟩ := h
  refine ⟨⟨hc, hr, h0.trans p3, m5.trans p4, l', p5, (h73 2 (by omega)).trans p6, by rw [h26, h78]; exact p7⟩, ⟨p8, (h73 2 (by omega)).trans p9⟩, h12.trans p10, p11, p12, cd, ca, (h73 7 (by omega)).trans p13, ?_⟩
  intro e he
  rw [h73 (58 + e) (by omega), h28, h29]
  exact p14 e he
theorem SP_new {n n' s nx : Nat} {dd ll rf : Nat → Nat} {I J I' J' : zI} (h : SP n dd ll rf s nx I J) (h42 : I' 42 1 = I 42 1) (h2 : I' 42 2 = 0) (m3 : J' 72 3 = 0) : SP n' dd ll rf 0 nx I' J' := ⟨by omega, h.2.1, h42.trans h.2.2.1, h2.trans rfl, m3.trans rfl, fun i hi => absurd hi (by omega), fun i hi => absurd hi (by omega)⟩
theorem AG_mono {m n n' : Nat} {dy wt wm mu : Nat → Nat} {I J : zI} (h : AG m n dy wt wm mu I J) (hn : n ≤ n') : AG m n' dy wt wm mu I J := by
  obtain ⟨b1, b2, b3, b4⟩ := h
  refine ⟨b1, b2, b3, fun i hi => ⟨(b4 i hi).1, fun hw => ?_⟩⟩
  obtain ⟨⟨d1, d2, d3⟩, d4⟩ := (b4 i hi).2 hw
  exact ⟨⟨d1, d2, by omega⟩, d4⟩
theorem UM_mono {m n n' : Nat} {wo wm : Nat → Nat} {I J : zI} (h : UM m n wo wm I J) (hn : n ≤ n') : UM m n' wo wm I J := by
  obtain ⟨b1, b2, b3, b4, b5⟩ := h
  refine ⟨b1, b2, b3, fun i hi => ?_, b5⟩
  obtain ⟨d1, d2, d3, d4⟩ := b4 i hi
  exact ⟨d1, d2, by omega, d4⟩
theorem WRn_mono {n n' : Nat} {I J : zI} (h : WRn n I J) (hn : n ≤ n') : WRn n' I J := by
  obtain ⟨⟨m1, dy, wt, wm, mu, ha⟩, m2, wo, wm2, hu⟩ := h
  exact ⟨⟨m1, dy, wt, wm, mu, AG_mono ha hn⟩, m2, wo, wm2, UM_mono hu hn⟩
/-- a court that is another at some cells -/
def NWc (n n' d : Nat) (I J I1 J1 : zI) : Prop := n ≤ n' ∧ CRJ n' 7 8 I1 J1 ∧ RG n' d (J1 73) (J1 76) (J1 77) ∧ (∀ a, a ≠ 7 → a ≠ 8 → I1 a = I a) ∧ I1 7 0 = I 7 0 ∧ I1 7 12 = I 7 12 ∧ (∀ a, a ≠ 72 → a ≠ 73 → a ≠ 76 → a ≠ 77 → J1 a = J a) ∧ (∀ k, k ≠ 0 → k ≠ 6 → k ≠ 7 → k ≠ 8 → J1 72 k = J 72 k) ∧ ∀ k, k = 2 ∨ k = 7 ∨ 58 ≤ k → J1 73 k = J 73 k
theorem CORE_new {n n' s nx : Nat} {dd ll rf : Nat → Nat} {I J I1 J1 : zI} (h : CORE n s nx dd ll rf I J) (h1 : NWc n n' (dd 0) I J I1 J1) : CORE n' 0 nx dd ll rf (zu I1 42 2 0) (zu J1 72 3 0) := by
  obtain ⟨c1, c2, c3, c4⟩ := h
  obtain ⟨b1, b2, b3, b4, b5, b6, b7, b8, b9⟩ := h1
  have w := W_v (I' := zu I1 42 2 0) (J' := zu J1 72 3 0) c3 c4 (fun a ha => by rw [zu_ne (by omega)]; exact b4 a (by omega) (by omega)) (fun a ha => by rw [zu_ne (by omega)]; exact b7 a (by omega) (by omega) (by omega) (by omega)) (fun k hk => by rw [zu_ne2 (by omega)]; exact b8 k (by omega) (by omega) (by omega) (by omega))
  refine ⟨CU_new c1 ?_ ?_ ?_ ?_ ?_ ?_ ?_ ?_ ?_ ?_, SP_new c2 ?_ zu_eq zu_eq, WRn_mono w.1 b1, w.2⟩
  · unfold CRJ
    rw [zu_ne (b := 7) (by omega), zu_ne (b := 8) (by omega), zu_ne (b := 73) (by omega), zu_ne (b := 76) (by omega), zu_ne (b := 77) (by omega)]
    exact CR_x b2 (fun _ _ _ => rfl) (fun _ _ => rfl) (fun _ _ _ => rfl) (zu_ne2 (by omega)) (zu_ne2 (by omega)) (zu_ne2 (by omega)) (fun _ _ => rfl) (fun _ _ => rfl)
  · rw [zu_ne (b := 73) (by omega), zu_ne (b := 76) (by omega), zu_ne (b := 77) (by omega)]
    exact b3
  · rw [zu_ne1 (by omega)]
    exact b5
  · rw [zu_ne1 (by omega)]
    exact b6
  · rw [zu_ne (by omega)]
    exact b4 26 (by omega) (by omega)
  · rw [zu_ne (by omega)]
    exact b4 28 (by omega) (by omega)
  · rw [zu_ne (by omega)]
    exact b4 29 (by omega) (by omega)
  · rw [zu_ne2 (by omega)]
    exact b8 5 (by omega) (by omega) (by omega) (by omega)
  · intro k hk
    rw [zu_ne1 (by omega)]
    exact b9 k hk
  · rw [zu_ne (by omega)]
    exact b7 78 (by omega) (by omega) (by omega) (by omega)
  · rw [zu_ne2 (by omega), b4 42 (by omega) (by omega)]
theorem OK_nw {g : zg} {XC XM : zM → Option (Option Value × zM)} {M : zM} (h : Inv g M.1) (hs : ∀ (n s nx : Nat) (dd ll rf : Nat → Nat) (N : zM), CORE n s nx dd ll rf M.1 N.1 → (∃ v, XC M = some (some (.int v), M) ∧ XM N = some (some (.int v), ((zu N.1 72 0 0), N.2))) ∨ ∃ v I1 J1 n', XC M = some (some (.int v), ((zu I1 42 2 0), M.2)) ∧ XM N = some (some (.int v), ((zu J1 72 3 0), N.2)) ∧ NWc n n' (dd 0) M.1 N.1 I1 J1) : OKc g XC XM M := by
  refine OK_st h (fun n s nx dd ll rf N hN => ?_)
  rcases hs n s nx dd ll rf N hN with ⟨v, q1, q2⟩ | ⟨v, I1, J1, n', q1, q2, q3⟩
  · exact ⟨v, _, _, q1, q2, FI_r _, FJ_t _, n, s, nx, dd, ll, rf, CORE_x hN (fun _ _ => rfl) (fun a ha => zu_ne (by omega)) (fun k hk => zu_ne2 (by omega))⟩
  · refine ⟨v, _, _, q1, q2, ⟨fun a ha => ?_, ?_⟩, ⟨fun a ha => ?_, fun k hk => ?_⟩, n', 0, nx, dd, ll, rf, CORE_new hN q3⟩
    · rw [zu_ne (by omega)]
      exact q3.2.2.2.1 a (by omega) (by omega)
    · rw [zu_ne1 (by omega), q3.2.2.2.1 40 (by omega) (by omega)]
    · rw [zu_ne (by omega)]
      exact q3.2.2.2.2.2.2.1 a (by omega) (by omega) (by omega) (by omega)
    · rw [zu_ne2 (by omega)]
      exact q3.2.2.2.2.2.2.2.1 k (by omega) (by omega) (by omega) (by omega)
theorem k_state (g : zg) (a : Int32) {M : zM} (h : Inv g M.1) : OKc g (X_X11_state g [.ref 0, .int a]) (X_X12_state g [.ref 72, .int a]) M := by
  refine OK_nw h (fun n s nx dd ll rf N hN => Or.inr ?_)
  obtain ⟨c1, _⟩ := hN
  have q1 := stateC_s g a M
  rw [show M.1 7 3 = N.1 73 1 from (CR_f c1.1.1).2.2.2.1] at q1
  refine ⟨_, _, _, n, q1, x_X12_state_0 g a N, Nat.le_refl n, ?_, ?_, fun b _ _ => zu_ne (by omega), zu_ne2 (by omega), zu_ne2 (by omega), fun b _ _ _ _ => by rw [zu_ne (by omega), zu_ne (by omega)], fun k _ _ _ _ => by rw [zu_ne1 (by omega), zu_ne2 (by omega)], fun k hk => by rw [zu_ne2 (by omega), zu_ne1 (by omega)]⟩
  · unfold CRJ
    rw [zu_upd, zu_ne (b := 8) (by omega), zu_upd (a := 73), zu_ne (b := 73) (by omega), zu_ne (b := 72) (by omega), zu_ne (b := 76) (by omega), zu_ne (b := 76) (by omega), zu_ne (b := 77) (by omega), zu_ne (b := 77) (by omega)]
    exact CR_x (CR_state c1.1.1 a) (fun _ _ _ => rfl) (fun _ _ => rfl) (fun _ _ _ => rfl) (zu_ne2 (by omega)) (zu_ne2 (by omega)) (zu_ne2 (by omega)) (fun _ _ => rfl) (fun _ _ => rfl)
  · rw [zu_upd (a := 73), zu_ne (b := 73) (by omega), zu_ne (b := 76) (by omega), zu_ne (b := 76) (by omega), zu_ne (b := 77) (by omega), zu_ne (b := 77) (by omega)]
    exact RG_up c1.1.2.1 (by omega) (by omega) (by omega) (by omega) (by omega) (by omega)
theorem k_teller (g : zg) (a1 a2 : Int32) {M : zM} (h : Inv g M.1) : OKc g (X_X11_teller g [.ref 0, .int a1, .int a2]) (X_X12_teller g [.ref 72, .int a1, .int a2]) M := by
  refine OK_nw h (fun n s nx dd ll rf N hN => ?_)
  obtain ⟨c1, _⟩ := hN
  obtain ⟨hn, hc, hm⟩ := PR_n c1.1
  by_cases hb : (inb a1 0 5 && inb a2 0 9) = false ∨ n = 10
  · left
    have hb1 : (inb a1 0 5 && inb a2 0 9) = false ∨ M.1 7 2 = nI 10 := hb.imp id (fun e => by rw [hc, e])
    have hb2 : (inb a1 0 5 && inb a2 0 9) = false ∨ N.1 72 6 = nI 10 := hb.imp id (fun e => by rw [hm, e])
    exact ⟨_, tellerC_f g hb1, tellerM_f g hb2⟩
  · right
    have hb0 := hb
    rw [not_or, Bool.not_eq_false, Bool.and_eq_true] at hb0
    obtain ⟨⟨i1, i2⟩, i3⟩ := hb0
    have hn' : n < 10 := by omega
    refine ⟨_, _, _, n + 1, tellerC_s g hn' hc i1 i2, tellerM_s g hn' hm i1 i2, by omega, ?_, ?_, ?_, ?_, ?_, ?_, ?_, ?_⟩
    · unfold CRJ
      simp only [zu_upd, zu_ne (b := 7) (a := 8) (by omega), zu_ne (b := 8) (a := 7) (by omega), zu_ne (b := 72) (a := 76) (by omega), zu_ne (b := 72) (a := 77) (by omega), zu_ne (b := 73) (a := 72) (by omega), zu_ne (b := 73) (a := 76) (by omega), zu_ne (b := 73) (a := 77) (by omega), zu_ne (b := 76) (a := 72) (by omega), zu_ne (b := 76) (a := 77) (by omega), zu_ne (b := 77) (a := 72) (by omega), zu_ne (b := 77) (a := 76) (by omega)]
      refine CR_x (CR_teller c1.1.1 hn' a1 a2) (fun _ _ _ => rfl) (fun _ _ => rfl) (fun _ _ _ => rfl) ?_ ?_ ?_ (fun _ _ => rfl) (fun _ _ => rfl)
      · rw [upd1_eq, upd1_eq]
      · rw [upd1_ne (by omega), upd1_ne (by omega), upd1_ne (by omega)]
      · rw [upd1_ne (by omega), upd1_ne (by omega), upd1_ne (by omega)]
    · simp only [zu_upd, zu_ne (b := 73) (a := 72) (by omega), zu_ne (b := 73) (a := 76) (by omega), zu_ne (b := 73) (a := 77) (by omega), zu_ne (b := 76) (a := 72) (by omega), zu_ne (b := 76) (a := 77) (by omega), zu_ne (b := 77) (a := 72) (by omega), zu_ne (b := 77) (a := 76) (by omega)]
      obtain ⟨r0, r3, ⟨w4, r4, r4'⟩, rt⟩ := c1.1.2.1
      obtain ⟨x1, x1', e1⟩ := inb_ex (b := 5) (by omega) i1
      obtain ⟨x2, x2', e2⟩ := inb_ex (b := 9) (by omega) i2
      refine ⟨r0, r3, ⟨w4, by omega, r4'⟩, fun t ht => ?_⟩
      by_cases et : t = n
      · subst et
        have z := c1.1.1.2.2.2.2.2.2.2.2.2.2.2.2.2 t (Nat.le_refl t) hn'
        have z3 := z 3 (by omega) (by omega)
        have z4 := z 4 (by omega) (by omega)
        have z6 := z 6 (by omega) (by omega)
        refine ⟨⟨0, by omega, ?_⟩, ?_, ⟨0, by omega, ?_⟩, ⟨x1, x1', by rw [upd1_eq]; exact e1⟩, x2, x2', by rw [upd1_eq]; exact e2⟩
        · rw [show 18 + t = 10 * 3 - 12 + t from by omega, z3]
          rfl
        · rw [show 28 + t = 10 * 4 - 12 + t from by omega, z4]
          decide +kernel
        · rw [show 48 + t = 10 * 6 - 12 + t from by omega, z6]
          rfl
      · rw [upd1_ne (f := N.1 76) et, upd1_ne (f := N.1 77) et]
        exact rt t (by omega)
    · intro b u1 u2
      simp only [zu_ne u1, zu_ne u2]
    · simp only [zu_ne1 (a := 8) (b := 7) (by omega)]
      exact zu_ne2 (by omega)
    · simp only [zu_ne1 (a := 8) (b := 7) (by omega)]
      exact zu_ne2 (by omega)
    · intro b u1 u2 u3 u4
      simp only [zu_ne u1, zu_ne u3, zu_ne u4]
    · intro k u1 u2 u3 u4
      rw [zu_ne2 u2, zu_ne1 (by omega), zu_ne1 (by omega), zu_ne2 u1]
    · intro k hk
      rw [zu_ne1 (by omega), zu_ne1 (by omega), zu_ne1 (by omega), zu_ne1 (by omega)]
