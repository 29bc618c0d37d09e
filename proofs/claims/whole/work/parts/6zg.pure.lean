/-! PURE ROWS: two sums compared, on both sides -/
/-- the class: two sums and a sign between -/
noncomputable def cmC (g : zg) (M1 : zM) : Option (Option Value × zM) := (zbI (X_X4_readSum g [.ref 56, .ref 1] M1) (fun x2 M2 => (bif cEq0 x2 then some (some (.int 0), M2) else (zbI (X_X9_token g [.ref 1] M2) (fun x3 M3 => (bif cEq x3 60 then (zbV (X_X9_step g [.ref 1] M3) (fun M4 => (zbI (X_X4_readSum g [.ref 56, .ref 1] M4) (fun x5 M5 => (bif cEq0 x5 then some (some (.int 0), M5) else (zbV (X_X4_emit g [.ref 56, .int (-x3)] M5) (fun M6 => some (some (.int 1), M6)))))))) else (bif cEq x3 61 then (zbV (X_X9_step g [.ref 1] M3) (fun M7 => (zbI (X_X4_readSum g [.ref 56, .ref 1] M7) (fun x8 M8 => (bif cEq0 x8 then some (some (.int 0), M8) else (zbV (X_X4_emit g [.ref 56, .int (-x3)] M8) (fun M9 => some (some (.int 1), M9)))))))) else (bif cEq x3 62 then (zbV (X_X9_step g [.ref 1] M3) (fun M10 => (zbI (X_X4_readSum g [.ref 56, .ref 1] M10) (fun x11 M11 => (bif cEq0 x11 then some (some (.int 0), M11) else (zbV (X_X4_emit g [.ref 56, .int (-x3)] M11) (fun M12 => some (some (.int 1), M12)))))))) else (zbI (X_X9_refuse g [.ref 1, .int 1] M3) (fun x13 M13 => (bif cEq (x13 &&& 1) x13 then some (some (.int x13), M13) else none)))))))))))
def cpO (o : Nat) : Int32 := if o = 6 then 60 else if o = 7 then 61 else 62
theorem comp_al (g : zg) {f : Nat → Int32} {L c m s : Nat} {M N : zM} (h : TKS 0 f L c m M.1 N.1) (hl : LG s M.1 N.1) (hs : s ≤ c) : ∃ ok I' J', cmC g M = some (some (.int (b01 ok)), (I', M.2)) ∧ X_X12_readCompared g [.ref 72] N = some (some (.int (bif ok then 0 else -1)), (J', N.2)) ∧ GFc s M.1 I' ∧ GFm s N.1 J' ∧ (ok = false → FL I' J') ∧ (ok = true → ∃ c' s', TKS 0 f L c' m I' J' ∧ LG s' I' J' ∧ s ≤ s' ∧ c < c' ∧ s' + c ≤ s + c' ∧ ∀ st : List Nat, st.length ≤ 24 → TY J' s s' st (1 :: st)) := by
  have hm : m ≤ 400 := h.2.1.1
  obtain ⟨ok, I1, J1, q1, q2, q3, q4, q5, q6⟩ := sum_al g h hl hs
  have cl : cmC g M = cmC g M := rfl
  have rf := x_X12_readCompared_0 g N
  conv at cl =>
    rhs
    unfold cmC
  rw [q1, zbI_s, cEq0_b01] at cl
  rw [q2, zbI_s] at rf
  cases ok
  · exact ⟨false, I1, J1, cl, rf, q3, q4, q5, fun c => absurd c (by decide)⟩
  · obtain ⟨c1, s1, w1, w2, w3, w4, w5, x1, w6⟩ := q6 rfl
    have hc1 : c1 ≤ m := w1.2.1.2.1
    have i60 := isSignM_s g (j := 0) (by omega) (N := (J1, N.2)) w1 (s := 60) (by decide)
    have i61 := isSignM_s g (j := 0) (by omega) (N := (J1, N.2)) w1 (s := 61) (by decide)
    have i62 := isSignM_s g (j := 0) (by omega) (N := (J1, N.2)) w1 (s := 62) (by decide)
    rw [bif_t, show cEq (0 : Int32) (-1) = false from rfl, bif_f, i60, zbI_s, cEq0_b01, i61, zbI_s, cEq0_b01, i62, zbI_s, cEq0_b01] at rf
    rw [Bool.not_true, bif_f, tokenC_s g (M := (I1, M.2)) w1, zbI_s] at cl
    dsimp only at cl
    have tr := (TKS_r (by omega) w1).1
    have go : ∀ o : Nat, (o = 6 ∨ o = 7 ∨ o = 8) → I1 3 c1 = cpO o → ∃ ok I' J', cmC g M = some (some (.int (b01 ok)), (I', M.2)) ∧ X_X12_readCompared g [.ref 72] N = some (some (.int (bif ok then 0 else -1)), (J', N.2)) ∧ GFc s M.1 I' ∧ GFm s N.1 J' ∧ (ok = false → FL I' J') ∧ (ok = true → ∃ c' s', TKS 0 f L c' m I' J' ∧ LG s' I' J' ∧ s ≤ s' ∧ c < c' ∧ s' + c ≤ s + c' ∧ ∀ st : List Nat, st.length ≤ 24 → TY J' s s' st (1 :: st)) := by
      intro o ho hT
      have hsg : sgC (cpO o) = true := by rcases ho with e | e | e <;> rw [e] <;> decide
      have hV : J1 72 17 = cpO o := by rw [sg_v tr (by rw [hT]; exact hsg), hT]
      obtain ⟨t1, t2⟩ := stepC_s g (j := 0) (M := (I1, M.2)) (by omega) w1 (by dsimp only; rw [hT]; exact sg_nz hsg)
      obtain ⟨J2, r1, r2, r3⟩ := readsM_s g (N := (J1, N.2)) w1 t1
      dsimp only at t2 r1 r2
      have lg : LG s1 (zu I1 1 4 (nI (c1 + 1))) J2 := LGq_p w2 (PFc_u (by omega)) (PFm_d r2)
      obtain ⟨ok, I3, J3, y1, y2, y3, y4, y5, y6⟩ := sum_al g (M := ((zu I1 1 4 (nI (c1 + 1))), M.2)) (N := (J2, N.2)) r3 lg (by omega)
      dsimp only at y1 y2 y3 y4
      have cl2 : cmC g M = (bif cEq0 (b01 ok) then some (some (.int 0), (I3, M.2)) else (zbV (X_X4_emit g [.ref 56, .int (-(cpO o))] (I3, M.2)) (fun M6 => some (some (.int 1), M6)))) := by
        rw [cl, hT, t2, zbV_s, y1, zbI_s]
        rcases ho with e | e | e <;> rw [e] <;> rfl
      have e43 : zX (t_X12_readCompared g) 43 [some (.ref 72), none] [] (J1, N.2) = (bif cEq (bif ok then 0 else (-1 : Int32)) (-1) then some (some (.int (-1)), (J3, N.2)) else (zbV (X_X12_emits g [.ref 72, .int (nI o), .int 0] (J3, N.2)) (fun M3 => some (some (.int 0), M3)))) := by
        rw [e_X12_readCompared_43]
        dsimp only
        rw [hV]
        rcases ho with e | e | e
        · rw [e, show cEq (cpO 6) 60 = true from rfl, bif_t, r1, zbV_s, y2, zbI_s]
          rfl
        · rw [e, show cEq (cpO 7) 60 = false from rfl, bif_f, show cEq (cpO 7) 61 = true from rfl, bif_t, r1, zbV_s, y2, zbI_s]
          rfl
        · rw [e, show cEq (cpO 8) 60 = false from rfl, bif_f, show cEq (cpO 8) 61 = false from rfl, bif_f, r1, zbV_s, y2, zbI_s]
          rfl
      have rf2 : X_X12_readCompared g [.ref 72] N = zX (t_X12_readCompared g) 43 [some (.ref 72), none] [] (J1, N.2) := by
        rw [rf, hT]
        rcases ho with e | e | e <;> rw [e] <;> rfl
      rw [e43] at rf2
      have fc : GFc s M.1 I3 := GFc_t q3 (GFc_t (GFc_p (PFc_u (by omega))) y3 (Nat.le_refl _)) w3
      have fm : GFm s N.1 J3 := GFm_t q4 (GFm_t (GFm_p (PFm_d r2)) y4 (Nat.le_refl _)) w3
      cases ok
      · exact ⟨false, I3, J3, cl2, rf2, fc, fm, y5, fun c => absurd c (by decide)⟩
      · obtain ⟨c2, s2, v1, v2, v3, v4, v5, x2, v6⟩ := y6 rfl
        have hc2 : c2 ≤ m := v1.2.1.2.1
        have s400 : s2 < 400 := by omega
        obtain ⟨l1, l2, l3⟩ := LG_em (o := o) (v := 0) v2 s400 (by omega) (by omega)
        have hcd : cdOf o 0 = -(cpO o) := by rcases ho with e | e | e <;> rw [e] <;> rfl
        rw [show cEq0 (b01 true) = false from rfl, bif_f, ← hcd, emitC_s g (M := (I3, M.2)) v2.2.1 s400, zbV_s] at cl2
        rw [bif_t, show cEq (0 : Int32) (-1) = false from rfl, bif_f, emitsM_s g (N := (J3, N.2)) (s := s2) v2.2.2.1 s400, zbV_s] at rf2
        refine ⟨true, _, _, cl2, rf2, GFc_t fc (GFc_e (Nat.le_refl s2)) (by omega), GFm_t fm (GFm_e (Nat.le_refl s2)) (by omega), fun c => absurd c (by decide), fun _ => ⟨c2, s2 + 1, TKS_e v1, l1, by omega, by omega, by omega, fun st hst => ?_⟩⟩
        have a1 : TY J3 s s1 st (x1 :: st) := TY_x (w6 st (by omega)) (fun j hj => ⟨((y4.2.2 (800 + j) (by omega)).1).trans (by rw [r2.1 86 (by omega)]), ((y4.2.2 (800 + j) (by omega)).2).trans (by rw [r2.1 87 (by omega)])⟩)
        have a2 : TY J3 s1 s2 (x1 :: st) (x2 :: x1 :: st) := v6 (x1 :: st) (by rw [List.length_cons]; omega)
        refine TY_t (TY_x (TY_t a1 a2) (fun j hj => eM_86 (by omega))) (TY_1 ?_)
        show ty1 (oJ (eM J3 s2 (nI o) (nI 0)) s2) (kJ (eM J3 s2 (nI o) (nI 0)) s2) _ _
        rw [l2, l3]
        exact Or.inr (Or.inr (Or.inr (Or.inr (Or.inr (Or.inl ⟨ho, x2, x1, st, rfl, rfl⟩)))))
    by_cases u1 : I1 3 c1 = 60
    · exact go 6 (Or.inl rfl) u1
    · by_cases u2 : I1 3 c1 = 61
      · exact go 7 (Or.inr (Or.inl rfl)) u2
      · by_cases u3 : I1 3 c1 = 62
        · exact go 8 (Or.inr (Or.inr rfl)) u3
        · obtain ⟨f1, f2, f3⟩ := fl_al (I := I1) (J := J1) 1 (nI (plS f L 0 c1))
          rw [cEq_n u1, bif_f, cEq_n u2, bif_f, cEq_n u3, bif_f, refuC_s g (M := (I1, M.2)) (j := 0) (by omega) w1, zbI_s] at cl
          rw [cEq_n u1, cEq_n u2, cEq_n u3, Bool.not_false, bif_t, bif_t, bif_t, errsM_s g (N := (J1, N.2)) (j := 0) (by omega) w1, zbI_s] at rf
          exact ⟨false, _, _, cl, rf, GFc_t q3 (GFc_p f1) (Nat.le_refl s), GFm_t q4 (GFm_p f2) (Nat.le_refl s), fun _ => f3, fun c => absurd c (by decide)⟩
