/-! PURE ROWS: what holds between calls -/
def CORE (n s nx : Nat) (dd ll rf : Nat → Nat) (I J : zI) : Prop := CU n (dd 0) (ll 0) (rf 0) I J ∧ SP n dd ll rf s nx I J ∧ WRn n I J ∧ WRo I J
theorem SP_I {n s nx : Nat} {dd ll rf : Nat → Nat} {I J I' J' : zI} (h : SP n dd ll rf s nx I J) (h42 : I' 42 = I 42) (h44 : ∀ a, 44 ≤ a → a ≤ 55 → I' a = I a) (h28 : I' 28 = I 28) (h29 : I' 29 = I 29) (h74 : J' 74 = J 74) (h76 : J' 76 = J 76) (h77 : J' 77 = J 77) (m3 : J' 72 3 = J 72 3) (m6 : J' 72 6 = J 72 6) (m7 : J' 72 7 = J 72 7) (m8 : J' 72 8 = J 72 8) : SP n dd ll rf s nx I' J' := by
  have e : SP n (hd (dd 0) dd) (hd (ll 0) ll) (hd (rf 0) rf) s nx I' J' := SP_step h h42 h44 h74 h76 h77 m3 m6 m7 m8 (fun i _ cd ca row hm => by rw [h28, h29]; exact hm) (fun h0 => h.2.2.2.2.2.1 0 h0)
  have ef : ∀ f : Nat → Nat, hd (f 0) f = f := by
    intro f
    funext i
    cases i with
    | zero => rfl
    | succ i => rfl
  rw [ef, ef, ef] at e
  exact e
/-- the relation rests on these cells alone -/
theorem CORE_x {n s nx : Nat} {dd ll rf : Nat → Nat} {I J I' J' : zI} (h : CORE n s nx dd ll rf I J) (hI : ∀ a, (7 ≤ a ∧ a ≤ 38 ∧ a ≠ 15 ∧ a ≠ 16 ∧ a ≠ 30 ∧ a ≠ 31) ∨ a = 42 ∨ (44 ≤ a ∧ a ≤ 55) → I' a = I a) (hJ : ∀ a, (73 ≤ a ∧ a ≤ 99 ∧ a ≠ 75 ∧ a ≠ 79 ∧ a ≠ 80 ∧ a ≠ 88 ∧ a ≠ 91 ∧ a ≠ 92 ∧ a ≠ 97 ∧ a ≠ 98) → J' a = J a) (h72 : ∀ k, k = 3 ∨ k = 5 ∨ k = 6 ∨ k = 7 ∨ k = 8 ∨ k = 35 ∨ k = 37 ∨ k = 43 ∨ k = 45 ∨ k = 47 → J' 72 k = J 72 k) : CORE n s nx dd ll rf I' J' := by
  obtain ⟨h1, h2, h3, h4⟩ := h
  have e28 := hI 28 (by omega)
  have e29 := hI 29 (by omega)
  have hC : ∀ a k, cellC a k → I' a k = I a k := by
    intro a k hc
    rw [hI a (by unfold cellC at hc; omega)]
  have hM : ∀ a k, cellM a k → J' a k = J a k := by
    intro a k hc
    by_cases e : a = 72
    · subst e
      exact h72 k (by unfold cellM at hc; omega)
    · rw [hJ a (by unfold cellM at hc; omega)]
  refine ⟨CU_of h1 (hI 7 (by omega)) (hI 8 (by omega)) (hI 26 (by omega)) e28 e29 (h72 5 (by omega)) (h72 6 (by omega)) (h72 7 (by omega)) (h72 8 (by omega)) (hJ 73 (by omega)) (hJ 76 (by omega)) (hJ 77 (by omega)) (hJ 78 (by omega)), SP_I h2 (hI 42 (by omega)) (fun a u1 u2 => hI a (by omega)) e28 e29 (hJ 74 (by omega)) (hJ 76 (by omega)) (hJ 77 (by omega)) (h72 3 (by omega)) (h72 6 (by omega)) (h72 7 (by omega)) (h72 8 (by omega)), WRn_x h3 hC hM, WRo_x h4 hC hM⟩
/-- the reference's half in another memory; the class's half in another -/
theorem CORE_J {n s nx : Nat} {dd ll rf : Nat → Nat} {I J J' : zI} (h : CORE n s nx dd ll rf I J) (hJ : ∀ a, 72 ≤ a → a ≤ 100 → J' a = J a) : CORE n s nx dd ll rf I J' := CORE_x h (fun _ _ => rfl) (fun a ha => hJ a (by omega) (by omega)) (fun k _ => by rw [hJ 72 (by omega) (by omega)])
theorem CORE_I {n s nx : Nat} {dd ll rf : Nat → Nat} {I I' J : zI} (h : CORE n s nx dd ll rf I J) (hI : ∀ a, a < 72 → I' a = I a) : CORE n s nx dd ll rf I' J := CORE_x h (fun a ha => hI a (by omega)) (fun _ _ => rfl) (fun _ _ => rfl)
/-- the reference's words -/
def wtL : List Nat := [32, 116, 101, 108, 108, 32, 101, 114, 114, 32, 98, 108, 97, 109, 101, 32, 119, 104, 101, 110, 32, 111, 114, 32, 97, 110, 100, 32, 110, 111, 116, 32, 115, 111, 114, 116, 32, 102, 101, 97, 114, 32, 98, 114, 105, 98, 101, 32, 103, 108, 97, 115, 115, 32, 107, 105, 110, 100, 32, 115, 116, 97, 110, 100, 32, 100, 97, 121, 32, 109, 105, 110, 105, 115, 116, 101, 114, 32, 111, 102, 102, 32, 102, 111, 114, 32, 114, 105, 115, 101, 32, 102, 97, 108, 108, 32, 111, 110, 32, 110, 97, 109, 101, 32, 103, 108, 117, 101, 32, 102, 114, 101, 101, 32, 114, 101, 99, 97, 108, 108, 32, 116, 97, 112, 32]
def wtb (k : Nat) : Int32 := nI (wtL.getD k 0)
/-- the tape, its bytes, the words -/
def TPW (L : Nat) (I : zI) : Prop := TP L I ∧ (∀ k, k < L → ∃ b, b < 256 ∧ I 2 k = nI b) ∧ ∀ k, k < 125 → I 80 k = wtb k
theorem TPW_end {L k : Nat} {I I' : zI} (h : TPW L I) (hk : k ≤ L) (h1 : I' 1 5 = nI k) (h2 : I' 72 13 = nI k) (h3 : I' 2 = I 2) (h4 : I' 79 = I 79) (h5 : I' 80 = I 80) : TPW k I' := ⟨TP_end h.1 hk h1 h2 h3 h4, fun j hj => by rw [h3]; exact h.2.1 j (by omega), fun j hj => by rw [h5]; exact h.2.2 j hj⟩
theorem TPW_of {L : Nat} {I I' : zI} (h : TPW L I) (h1 : I' 1 5 = I 1 5) (h2 : I' 72 13 = I 72 13) (h3 : I' 2 = I 2) (h4 : I' 79 = I 79) (h5 : I' 80 = I 80) : TPW L I' := TPW_end h (Nat.le_refl L) (h1.trans h.1.2.1) (h2.trans h.1.2.2.1) h3 h4 h5
/-- what holds between calls -/
def IMG (g : zg) (I : zI) : Prop := if g.1 = true then I 72 54 = 1 ∧ WR (imI I) (imJ I) else I 72 54 = 0
def Inv (g : zg) (I : zI) : Prop := (∃ n s nx dd ll rf, CORE n s nx dd ll rf I I) ∧ (∃ L, TPW L I) ∧ (I 1 6 = I 72 33 ∧ I 1 7 = I 72 34) ∧ I 40 0 = 0 ∧ IMG g I
theorem IMG_of {g : zg} {I I' : zI} (h : IMG g I) (h54 : I' 72 54 = I 72 54) (hw : ∀ a, 206 ≤ a → a ≤ 239 → I' a = I a) (h100 : I' 100 = I 100) : IMG g I' := by
  unfold IMG at h ⊢
  split
  · rename_i hg
    rw [if_pos hg] at h
    refine ⟨h54.trans h.1, WR_x h.2 (fun a k hc => ?_) (fun a k _ => ?_)⟩
    · show I' (a + 200) k = I (a + 200) k
      rw [hw (a + 200) (by unfold cellC at hc; omega) (by unfold cellC at hc; omega)]
    · show I' 100 _ = I 100 _
      rw [h100]
  · rename_i hg
    rw [if_neg hg] at h
    exact h54.trans h
/-- scratch rows -/
def scr (a : Nat) : Prop := a = 15 ∨ a = 16 ∨ a = 30 ∨ a = 31 ∨ a = 40 ∨ a = 41 ∨ a = 75 ∨ a = 88 ∨ a = 91 ∨ a = 92 ∨ a = 97 ∨ a = 98 ∨ a = 241 ∨ a = 242
theorem Inv_of {g : zg} {I I' : zI} (h : Inv g I) (hA : ∀ a, ¬ scr a → a ≠ 72 → I' a = I a) (h72 : ∀ k, k ≠ 0 → k ≠ 41 → k ≠ 42 → I' 72 k = I 72 k) (h40 : I' 40 0 = I 40 0) : Inv g I' := by
  obtain ⟨⟨n, s, nx, dd, ll, rf, h1⟩, ⟨L, h2⟩, h3, h4, h5⟩ := h
  refine ⟨⟨n, s, nx, dd, ll, rf, CORE_x h1 (fun a ha => hA a (by unfold scr; omega) (by omega)) (fun a ha => hA a (by unfold scr; omega) (by omega)) (fun k hk => h72 k (by omega) (by omega) (by omega))⟩, ⟨L, TPW_of h2 (by rw [hA 1 (by unfold scr; omega) (by omega)]) (h72 13 (by omega) (by omega) (by omega)) (hA 2 (by unfold scr; omega) (by omega)) (hA 79 (by unfold scr; omega) (by omega)) (hA 80 (by unfold scr; omega) (by omega))⟩, ?_, h40.trans h4, IMG_of h5 (h72 54 (by omega) (by omega) (by omega)) (fun a u1 u2 => hA a (by unfold scr; omega) (by omega)) (hA 100 (by unfold scr; omega) (by omega))⟩
  rw [hA 1 (by unfold scr; omega) (by omega), h72 33 (by omega) (by omega) (by omega), h72 34 (by omega) (by omega) (by omega)]
  exact h3
/-- class first, then the reference from where the class ended -/
theorem two_step {XC XM : zM → Option (Option Value × zM)} {M : zM} {P : zI → Prop} {Q : zI → zI → zI → Prop} (h : ∀ N : zM, P N.1 → ∃ v I' J', XC M = some (some (.int v), (I', M.2)) ∧ XM N = some (some (.int v), (J', N.2)) ∧ Q I' N.1 J') (h0 : P M.1) (h1 : ∀ I' J', Q I' M.1 J' → P I') : ∃ v I' J', XC M = some (some (.int v), (I', M.2)) ∧ XM (I', M.2) = some (some (.int v), (J', M.2)) ∧ Q I' I' J' := by
  obtain ⟨v0, I0, J0, a1, a2, a3⟩ := h M h0
  obtain ⟨v, I', J', b1, b2, b3⟩ := h (I0, M.2) (h1 I0 J0 a3)
  have e := a1.symm.trans b1
  simp only [Option.some.injEq, Prod.mk.injEq, Value.int.injEq, and_true] at e
  obtain ⟨e1, e2⟩ := e
  subst e1
  subst e2
  exact ⟨v0, I0, J', a1, b2, b3⟩
/-- a call that both answer alike, and behind which all holds -/
def OKc (g : zg) (XC XM : zM → Option (Option Value × zM)) (M : zM) : Prop := ∃ v I1 L1 I2, XC M = some (some (.int v), (I1, L1)) ∧ XM (I1, L1) = some (some (.int v), (I2, L1)) ∧ Inv g I2
theorem k_of (g : zg) (a b : Int32) {M : zM} (h : Inv g M.1) : OKc g (X_X11_of g [.ref 0, .int a, .int b]) (X_X12_of g [.ref 72, .int a, .int b]) M := by
  obtain ⟨⟨n, s, nx, dd, ll, rf, h1, h2, h3, ⟨⟨m, wd, fr, wh, en, o, k, hl⟩, h4⟩⟩, _⟩ := id h
  obtain ⟨v, I', J', q1, q2, f1, s1, f2, s2, e1, e2⟩ := two_step (XC := X_X11_of g [.ref 0, .int a, .int b]) (XM := X_X12_of g [.ref 72, .int a, .int b]) (M := M) (P := fun J => ∀ a, 72 ≤ a → a ≤ 100 → J a = M.1 a) (Q := fun I' J J' => ∃ f1 s1 f2 s2, I' = zr (zr M.1 16 f1) 15 s1 ∧ J' = zr (zr (zu J 72 0 0) 91 f2) 92 s2) (by
    intro N hN
    have hl' : LW m wd fr wh en o k M.1 N.1 := LW_of hl rfl rfl rfl rfl rfl rfl (by rw [hN 81 (by omega) (by omega)]) (hN 82 (by omega) (by omega)) (hN 83 (by omega) (by omega)) (hN 84 (by omega) (by omega)) (hN 85 (by omega) (by omega)) (hN 86 (by omega) (by omega)) (hN 87 (by omega) (by omega))
    have hc' : CRJ n 7 8 M.1 N.1 := by
      unfold CRJ
      rw [hN 72 (by omega) (by omega), hN 73 (by omega) (by omega), hN 76 (by omega) (by omega), hN 77 (by omega) (by omega)]
      exact h1.1.1
    have hr' : RG n (dd 0) (N.1 73) (N.1 76) (N.1 77) := by
      rw [hN 73 (by omega) (by omega), hN 76 (by omega) (by omega), hN 77 (by omega) (by omega)]
      exact h1.1.2.1
    obtain ⟨f1, s1, f2, s2, v, q1, q2⟩ := of_al g a b hl' hc' hr'
    exact ⟨v, _, _, q1, q2, f1, s1, f2, s2, rfl, rfl⟩) (fun _ _ _ => rfl) (by
    rintro I' J' ⟨f1, s1, f2, s2, e, _⟩ a u1 u2
    rw [e, zr_ne (by omega), zr_ne (by omega)])
  refine ⟨v, I', M.2, J', q1, q2, ?_⟩
  subst e2
  subst e1
  refine Inv_of h ?_ ?_ ?_
  · intro a ha h72
    unfold scr at ha
    rw [zr_ne (by omega), zr_ne (by omega), zu_ne h72, zr_ne (by omega), zr_ne (by omega)]
  · intro k u1 _ _
    rw [zr_ne (by omega), zr_ne (by omega), zu_ne2 u1, zr_ne (by omega), zr_ne (by omega)]
  · rw [zr_ne (by omega), zr_ne (by omega), zu_ne (by omega), zr_ne (by omega), zr_ne (by omega)]
/-- the class leaves all as it was, the reference too -/
theorem OK_ro {g : zg} {XC XM : zM → Option (Option Value × zM)} {M : zM} (h : Inv g M.1) {v : Int32} (h1 : XC M = some (some (.int v), M)) (h2 : XM M = some (some (.int v), ((zu M.1 72 0 0), M.2))) : OKc g XC XM M := ⟨v, M.1, M.2, _, h1, h2, Inv_of h (fun a _ ha => zu_ne ha) (fun k hk _ _ => zu_ne2 hk) (zu_ne1 (by omega))⟩
theorem k_moves (g : zg) (a : Int32) {M : zM} (h : Inv g M.1) : OKc g (X_X11_moves g [.ref 0, .int a]) (X_X12_moves g [.ref 72, .int a]) M := by
  obtain ⟨⟨n, s, nx, dd, ll, rf, h1, h2, h3, ⟨h4, ⟨m, la, mv, ho⟩, h5⟩⟩, _⟩ := id h
  exact OK_ro h (movesC_s g a ho) (movesM_s g a ho)
theorem k_ahead (g : zg) (a : Int32) {M : zM} (h : Inv g M.1) : OKc g (X_X11_ahead g [.ref 0, .int a]) (X_X12_ahead g [.ref 72, .int a]) M := by
  obtain ⟨⟨n, s, nx, dd, ll, rf, h1, h2, h3, ⟨h4, ⟨m, la, mv, ho⟩, h5⟩⟩, _⟩ := id h
  obtain ⟨d1, d2⟩ := PR_d h1.1
  have e4 : M.1 7 4 = M.1 73 3 + 50 := (CR_f h1.1.1).2.2.2.2.1
  have c := aheadC_s g a ho h1.2.2.2.2.1 d1
  rw [e4] at c
  exact OK_ro h c (aheadM_s g a ho h1.2.2.2.2.1 d2)
theorem k_works (g : zg) (a1 a2 a3 a4 : Int32) {M : zM} (h : Inv g M.1) : OKc g (X_X11_works g [.ref 0, .int a1, .int a2, .int a3, .int a4]) (X_X12_works g [.ref 72, .int a1, .int a2, .int a3, .int a4]) M := by
  obtain ⟨⟨n, s, nx, dd, ll, rf, h1, h2, h3, ⟨h4, ⟨m, la, mv, ho⟩, h5⟩⟩, _⟩ := id h
  obtain ⟨d1, d2⟩ := PR_d h1.1
  obtain ⟨v, q1, q2⟩ := work_al g a1 a2 a3 a4 ho h1.2.2.2.2.1 h1.1.1 d2
  exact OK_ro h q1 q2
theorem k_safe (g : zg) (a1 a2 : Int32) {M : zM} (h : Inv g M.1) : OKc g (X_X11_safe g [.ref 0, .int a1, .int a2]) (X_X12_safe g [.ref 72, .int a1, .int a2]) M := by
  obtain ⟨⟨n, s, nx, dd, ll, rf, h1, h2, h3, ⟨⟨m, wd, fr, wh, en, o, k, hl⟩, ⟨mr, la, mv, ho⟩, h5⟩⟩, _⟩ := id h
  obtain ⟨d1, d2⟩ := PR_d h1.1
  obtain ⟨v, I', J', q1, q2, q3, q4⟩ := two_step (XC := X_X11_safe g [.ref 0, .int a1, .int a2]) (XM := X_X12_safe g [.ref 72, .int a1, .int a2]) (M := M) (P := fun J => ∀ a, 72 ≤ a → a ≤ 100 → J a = M.1 a) (Q := fun I' J J' => SFc M.1 I' ∧ SG (zu J 72 0 0) J') (by
    intro N hN
    have hl' : LW m wd fr wh en o k M.1 N.1 := LW_of hl rfl rfl rfl rfl rfl rfl (by rw [hN 81 (by omega) (by omega)]) (hN 82 (by omega) (by omega)) (hN 83 (by omega) (by omega)) (hN 84 (by omega) (by omega)) (hN 85 (by omega) (by omega)) (hN 86 (by omega) (by omega)) (hN 87 (by omega) (by omega))
    have ho' : RO mr la mv M.1 N.1 := RO_of ho rfl rfl rfl (by rw [hN 72 (by omega) (by omega)]) (hN 89 (by omega) (by omega))
    have hc' : CRJ n 7 8 M.1 N.1 := by
      unfold CRJ
      rw [hN 72 (by omega) (by omega), hN 73 (by omega) (by omega), hN 76 (by omega) (by omega), hN 77 (by omega) (by omega)]
      exact h1.1.1
    have h9 := h1.2.2.2.2.1
    obtain ⟨v, I', J', q1, q2, q3, q4⟩ := safe_al g a1 a2 (N := N) hc' (by rw [hN 73 (by omega) (by omega)]; exact d2) (by omega) hl' ho'
    exact ⟨v, I', J', q1, q2, q3, q4⟩) (fun _ _ _ => rfl) (by
    rintro I' J' ⟨e, _⟩ a u1 u2
    exact e.1 a (by omega) (by omega) (by omega) (by omega))
  refine ⟨v, I', M.2, J', q1, q2, Inv_of h ?_ ?_ ?_⟩
  · intro a ha h72
    unfold scr at ha
    rw [q4 a (by omega) (by omega), zu_ne h72]
    exact q3.1 a (by omega) (by omega) (by omega) (by omega)
  · intro k u1 _ _
    rw [q4 72 (by omega) (by omega), zu_ne2 u1, q3.1 72 (by omega) (by omega) (by omega) (by omega)]
  · rw [q4 40 (by omega) (by omega), zu_ne (by omega)]
    exact q3.2
