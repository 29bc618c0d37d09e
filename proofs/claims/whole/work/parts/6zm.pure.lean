/-! PURE ROWS: a line, all lines -/
theorem lline_al (g : zg) {f : Nat → Int32} {L m c k s w : Nat} {wd fr wh en : Nat → Nat} {M N : zM} (h : TKS 0 f L c m M.1 N.1) (hs : LLS k s wd fr wh en M.1 N.1) (hsc : s ≤ c) (hk : k < 16) (hw : w < 3) (hT : M.1 3 c = nI (137 + w)) (hK : N.1 72 16 = 2) (hV : N.1 72 17 = nI w) : LnR g f L m c k M N := by
  obtain ⟨_, g8, gl, g28, _⟩ := id hs
  obtain ⟨s1, s2⟩ := stepC_s g (j := 0) (by omega) h (by
    rw [hT]
    intro e
    exact absurd ((nI_eq (a := 137 + w) (b := 0) (by omega) (by omega)).1 e) (by omega))
  have a8 : (zu M.1 1 4 (nI (c + 1))) 56 8 = nI k := by rw [zu_ne1 (by omega)]; exact g8
  have a7 : (zu M.1 1 4 (nI (c + 1))) 56 7 = nI s := by rw [zu_ne1 (by omega)]; exact gl.2.1
  have e32 : (32 + nI k : Int32) = nI (32 + k) := by rw [show (32 : Int32) = nI 32 from rfl, nI_ad2]
  have z48 : zb (nI (32 + k)) 48 = true := by rw [zb_nI (by omega), decide_eq_true (by omega)]
  -- the class to the sum
  have cl := x_X4_readLine_0 g M
  have c32 : X_X4_readLine g [.ref 56, .ref 1] M = zX (t_X4_readLine g) 32 [some (.ref 56), some (.ref 1), some (.int (nI (137 + w)))] [] M := by
    rw [cl, tokenC_s g h, zbI_s, hT]
    have e : w = 0 ∨ w = 1 ∨ w = 2 := by omega
    rcases e with e | e | e <;> rw [e] <;> rfl
  rw [e_X4_readLine_32, g8, clT (c := 16) (n := 16) rfl hk (by omega), bif_t, s2, zbV_s] at c32
  dsimp only at c32
  rw [a8, a7, zb_nI (by omega), decide_eq_true hk, bif_t, bif_t, zx_nI (by omega)] at c32
  -- the reference to the sum
  have tk1 : TKS 0 f L c m M.1 (zu N.1 82 (32 + k) (nI w)) := TKS_E h (fun i _ _ => zu_ne1 (by omega)) (zu_ne (by omega)) (zu_ne (by omega))
  obtain ⟨J1, r1, r2, r3⟩ := readsM_s g (N := ((zu N.1 82 (32 + k) (nI w)), N.2)) tk1 s1
  dsimp only at r1 r2
  have pf1 := PFm_d r2
  have ilw : X_X12_isLineWord g [.ref 72] N = some (some (.int 1), N) := by
    rw [x_X12_isLineWord_0, hK, show cEq (2 : Int32) 2 = true from rfl, bif_t, isIn_s, zbI_s, hV, show inb (nI w) 0 2 = true from by
      have q := inb_nI (a := 0) (b := 2) (k := w) (by omega) (by omega) (by omega)
      rw [decide_eq_true (by omega), decide_eq_true (by omega)] at q
      exact q]
    rfl
  have j27 : J1 72 27 = nI s := by
    rw [pf1.2 27 (by omega) (by omega) (by omega) (by omega) (by omega) (by omega), zu_ne1 (by omega)]
    exact gl.2.2.1
  have rf := e_X12_readLaw_2 g (nI k) N
  rw [ilw, zbI_s, show cEq0 (1 : Int32) = false from rfl, bif_f, show cEq (nI k) 16 = false from by rw [show (16 : Int32) = nI 16 from rfl, cEq_nI (by omega) (by omega), decide_eq_false (by omega)], bif_f, e32, z48, bif_t, zx_nI (n := 32 + k) (by omega), nI_s1, hV, r1, zbV_s] at rf
  simp only [bif_t] at rf
  rw [j27] at rf
  have fJ1 : LFm N.1 (zu J1 83 (32 + k) (nI s)) := LFm_t (LFm_u (by omega) (by omega)) (LFm_t (LFm_p pf1) (LFm_u (by omega) (by omega)))
  have kJ1 : LKm k s N.1 (zu J1 83 (32 + k) (nI s)) := LKm_t (LKm_u (by omega)) (LKm_t (LKm_p pf1) (LKm_u (by omega)) (Nat.le_refl _)) (Nat.le_refl _)
  have fI1 : LFc M.1 (zu (zu (zu M.1 1 4 (nI (c + 1))) 57 k (nI (137 + w))) 58 k (nI s)) := LFc_t (LFc_p (PFc_u (by omega))) (LFc_t (LFc_u (by omega)) (LFc_u (by omega)))
  have kI1 : LKc k M.1 (zu (zu (zu M.1 1 4 (nI (c + 1))) 57 k (nI (137 + w))) 58 k (nI s)) := LKc_t (LKc_r (fun a u1 u2 => zu_ne (by omega))) (LKc_t LKc_u LKc_u)
  have tk2 : TKS 0 f L (c + 1) m (zu (zu (zu M.1 1 4 (nI (c + 1))) 57 k (nI (137 + w))) 58 k (nI s)) (zu J1 83 (32 + k) (nI s)) := TKS_E (TKS_Ix (TKS_Ix r3 (by omega)) (by omega)) (fun i _ _ => zu_ne1 (by omega)) (zu_ne (by omega)) (zu_ne (by omega))
  have lg2 : LG s (zu (zu (zu M.1 1 4 (nI (c + 1))) 57 k (nI (137 + w))) 58 k (nI s)) (zu J1 83 (32 + k) (nI s)) := LGq_x gl (by rw [zu_ne1 (by omega), zu_ne1 (by omega), zu_ne1 (by omega)]) (fun j _ => by rw [zu_ne1 (by omega), zu_ne1 (by omega), zu_ne1 (by omega)]) (by rw [zu_ne1 (by omega), j27]; exact gl.2.2.1.symm) (fun j hj => kJ1.2 j (by omega))
  obtain ⟨ok, I2, J2, q1, q2, q3, q4, q5, q6⟩ := sum_al g (M := ((zu (zu (zu M.1 1 4 (nI (c + 1))) 57 k (nI (137 + w))) 58 k (nI s)), M.2)) (N := ((zu J1 83 (32 + k) (nI s)), N.2)) tk2 lg2 (by omega)
  dsimp only at q1 q2 q3 q4
  rw [q1, zbI_s, cEq0_b01] at c32
  rw [q2, zbI_s] at rf
  have fI2 : LFc M.1 I2 := LFc_t fI1 (LFc_g q3)
  have fJ2 : LFm N.1 J2 := LFm_t fJ1 (LFm_e (EFm_g q4))
  cases ok
  · exact ⟨false, I2, J2, c32, rf, fI2, fJ2, q5, fun c => absurd c (by decide)⟩
  · obtain ⟨c2, s2', u1, u2, u3, u4, u5, x, u6⟩ := q6 rfl
    have i8 : I2 56 8 = nI k := by rw [q3.2.2.1 8 (by omega), zu_ne1 (by omega), zu_ne1 (by omega)]; exact a8
    have i7 : I2 56 7 = nI s2' := u2.2.1
    have j27' : J2 72 27 = nI s2' := u2.2.2.1
    have j28' : J2 72 28 = nI 0 := by
      rw [q4.2.1 28 (by omega) (by omega) (by omega) (by omega) (by omega) (by omega) (by omega), zu_ne1 (by omega), pf1.2 28 (by omega) (by omega) (by omega) (by omega) (by omega) (by omega), zu_ne1 (by omega)]
      exact g28
    rw [Bool.not_true, bif_f] at c32
    dsimp only at c32
    rw [i8, i7, zb_nI (n := k) (by omega), decide_eq_true hk, bif_t, zx_nI (n := k) (by omega)] at c32
    rw [bif_t, show cEq (0 : Int32) (-1) = false from rfl, bif_f] at rf
    dsimp only at rf
    rw [j27'] at rf
    have kI2 : LKc k M.1 (zu I2 59 k (nI s2')) := LKc_t kI1 (LKc_t (LKc_g q3) LKc_u)
    have kJ2 : LKm k s N.1 (zu J2 84 (32 + k) (nI s2')) := LKm_t kJ1 (LKm_t (LKm_e (EFm_g q4)) (LKm_u (by omega)) (Nat.le_refl _)) (Nat.le_refl _)
    have fI3 : LFc M.1 (zu I2 59 k (nI s2')) := LFc_t fI2 (LFc_u (by omega))
    have fJ3 : LFm N.1 (zu J2 84 (32 + k) (nI s2')) := LFm_t fJ2 (LFm_u (by omega) (by omega))
    have tk3 : TKS 0 f L c2 m (zu I2 59 k (nI s2')) (zu J2 84 (32 + k) (nI s2')) := TKS_E (TKS_Ix u1 (by omega)) (fun i _ _ => zu_ne1 (by omega)) (zu_ne (by omega)) (zu_ne (by omega))
    have lg3 : LG s2' (zu I2 59 k (nI s2')) (zu J2 84 (32 + k) (nI s2')) := LGq_x u2 (zu_ne1 (by omega)) (fun j _ => zu_ne1 (by omega)) (zu_ne1 (by omega)) (fun j _ => ⟨zu_ne1 (by omega), zu_ne1 (by omega)⟩)
    have new : (zu I2 59 k (nI s2')) 57 k = nI (137 + w) ∧ (zu J2 84 (32 + k) (nI s2')) 82 (32 + k) = nI w ∧ (zu I2 59 k (nI s2')) 58 k = nI s ∧ (zu J2 84 (32 + k) (nI s2')) 83 (32 + k) = nI s ∧ (zu I2 59 k (nI s2')) 59 k = nI s2' ∧ (zu J2 84 (32 + k) (nI s2')) 84 (32 + k) = nI s2' := by
      refine ⟨?_, ?_, ?_, ?_, zu_eq, zu_eq⟩
      · rw [zu_ne1 (by omega), q3.1 57 (by omega) (by omega) (by omega), zu_ne1 (by omega), zu_eq]
      · rw [zu_ne1 (by omega), q4.1 82 (by omega) (by omega) (by omega), zu_ne1 (by omega), pf1.1 82 (by omega), zu_eq]
      · rw [zu_ne1 (by omega), q3.1 58 (by omega) (by omega) (by omega), zu_eq]
      · rw [zu_ne1 (by omega), q4.1 83 (by omega) (by omega) (by omega), zu_eq]
    have tys : TY (zu J2 84 (32 + k) (nI s2')) s s2' [] [x] := TY_x (u6 [] (by decide)) (fun j _ => ⟨zu_ne1 (by omega), zu_ne1 (by omega)⟩)
    have b8 : (zu I2 59 k (nI s2')) 56 8 = nI k := by rw [zu_ne1 (by omega)]; exact i8
    have b28 : (zu J2 84 (32 + k) (nI s2')) 72 28 = nI 0 := by rw [zu_ne1 (by omega)]; exact j28'
    have w3 := isWordM_s g (j := 0) (by omega) (N := ((zu J2 84 (32 + k) (nI s2')), N.2)) tk3 (i := 12) (by decide) (a := 3) (by decide)
    rw [show (128 + nI 12 : Int32) = 140 from by decide] at w3
    rw [tokenC_s g (M := ((zu I2 59 k (nI s2')), M.2)) tk3, zbI_s] at c32
    rw [w3, zbI_s, cEq0_b01] at rf
    by_cases e140 : (zu I2 59 k (nI s2')) 3 c2 = 140
    · rw [cEq_s e140, bif_t] at c32
      rw [cEq_s e140, Bool.not_true, bif_f] at rf
      obtain ⟨t1, t2⟩ := stepC_s g (j := 0) (M := ((zu I2 59 k (nI s2')), M.2)) (by omega) tk3 (by dsimp only; rw [e140]; decide)
      obtain ⟨J4, y1, y2, y3⟩ := readsM_s g (N := ((zu J2 84 (32 + k) (nI s2')), N.2)) tk3 t1
      dsimp only at t2 y1 y2
      have pf4 := PFm_d y2
      have lg4 : LG s2' (zu (zu I2 59 k (nI s2')) 1 4 (nI (c2 + 1))) J4 := LGq_p lg3 (PFc_u (by omega)) pf4
      obtain ⟨ok, I5, J5, v1, v2, v3, v4, v5, v6⟩ := any_al g (M := ((zu (zu I2 59 k (nI s2')) 1 4 (nI (c2 + 1))), M.2)) (N := (J4, N.2)) y3 lg4 (by dsimp only; rw [pf4.2 28 (by omega) (by omega) (by omega) (by omega) (by omega) (by omega)]; exact b28) (by omega)
      dsimp only at v1 v2 v3 v4
      rw [t2, zbV_s, v1, zbI_s, cEq0_b01] at c32
      rw [y1, zbV_s, v2, zbI_s] at rf
      have fI5 : LFc M.1 I5 := LFc_t fI3 (LFc_t (LFc_p (PFc_u (by omega))) (LFc_g v3))
      have fJ5 : LFm N.1 J5 := LFm_t fJ3 (LFm_t (LFm_p pf4) (LFm_e v4))
      cases ok
      · exact ⟨false, I5, J5, c32, rf, fI5, fJ5, v5, fun c => absurd c (by decide)⟩
      · obtain ⟨c5, s5, x1, x2, x3, x4, x5, x6, x7⟩ := v6 rfl
        rw [Bool.not_true, bif_f] at c32
        rw [bif_t, show cEq (0 : Int32) (-1) = false from rfl, bif_f] at rf
        have n2 : ∀ a, 57 ≤ a → a ≤ 59 → I5 a = (zu I2 59 k (nI s2')) a := fun a u1 u2 => by rw [v3.1 a (by omega) (by omega) (by omega), zu_ne (by omega)]
        have m2 : ∀ a, 82 ≤ a → a ≤ 84 → J5 a = (zu J2 84 (32 + k) (nI s2')) a := fun a u1 u2 => by rw [v4.1 a (by omega) (by omega) (by omega) (by omega), pf4.1 a (by omega)]
        obtain ⟨o1, o2, o3, o4, o5, o6⟩ := new
        refine lfin_al g hk hw hs c32 rf fI5 fJ5 (LKc_t kI2 (LKc_t (LKc_r (fun a u1 u2 => zu_ne (by omega))) (LKc_g v3))) (LKm_t kJ2 (LKm_t (LKm_p (s := s) pf4) (LKm_e v4) u3) (Nat.le_refl _)) x1 x2 (by omega) (by omega) ?_ x3 ⟨by rw [n2 57 (by omega) (by omega)]; exact o1, by rw [m2 82 (by omega) (by omega)]; exact o2, by rw [n2 58 (by omega) (by omega)]; exact o3, by rw [m2 83 (by omega) (by omega)]; exact o4, by rw [n2 59 (by omega) (by omega)]; exact o5, by rw [m2 84 (by omega) (by omega)]; exact o6⟩ ⟨u3, x4⟩ ⟨x, TY_x tys (fun j hj => ⟨((v4.2.2 (800 + j) (by omega)).1).trans (by rw [pf4.1 86 (by omega)]), ((v4.2.2 (800 + j) (by omega)).2).trans (by rw [pf4.1 87 (by omega)])⟩)⟩ (fun _ => x7)
        rw [v3.2.2.1 8 (by omega), zu_ne1 (by omega)]
        exact b8
    · rw [cEq_n e140, bif_f] at c32
      rw [cEq_n e140, Bool.not_false, bif_t] at rf
      exact lfin_al g hk hw hs c32 rf fI3 fJ3 kI2 kJ2 tk3 lg3 (by omega) (by omega) b8 b28 new ⟨u3, Nat.le_refl _⟩ ⟨x, tys⟩ (fun u => absurd u (by omega))
