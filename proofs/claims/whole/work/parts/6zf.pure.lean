/-! PURE ROWS: a sum, on both sides -/
def adO (o : Nat) : Int32 := if o = 2 then 43 else if o = 3 then 45 else 0
def eO (o : Nat) : Nat := if o = 0 then 0 else 1
/-- the reference behind a product -/
noncomputable def smK (g : zg) (o : Nat) (x : Int32) (M : zM) : Option (Option Value × zM) := bif cEq x (-1) then some (some (.int (-1)), M) else (if o = 0 then zX (t_X12_readSum g) 10 [some (.ref 72), none] [] M else (zbV (X_X12_emits g [.ref 72, .int (nI o), .int 0] M) (fun M3 => zX (t_X12_readSum g) 10 [some (.ref 72), none] [] M3)))
def SumR (g : zg) (f : Nat → Int32) (L m o c s i : Nat) (M N : zM) : Prop := ∃ ok I' J', zX (t_X4_readSum g) 7 [some (.ref 56), some (.ref 1), some (.int (adO o)), some (.int 0), some (.int (nI i)), none] [] M = some (some (.int (b01 ok)), (I', M.2)) ∧ zbI (X_X12_readProduct g [.ref 72] N) (smK g o) = some (some (.int (bif ok then 0 else -1)), (J', N.2)) ∧ GFc s M.1 I' ∧ GFm s N.1 J' ∧ (ok = false → FL I' J') ∧ (ok = true → ∃ c' s', TKS 0 f L c' m I' J' ∧ LG s' I' J' ∧ s ≤ s' ∧ c < c' ∧ s' + c ≤ s + eO o + c' ∧ ∃ x, ∀ pre st : List Nat, pre.length = eO o → st.length ≤ 26 → TY J' s s' (pre ++ st) (x :: st))
theorem sg_v {T W K V : Int32} (h : TKR 0 T W K V) (hs : sgC T = true) : V = T := by
  have q := TKR_sign (j := 0) (by omega) h hs
  rw [cEq_s (rfl : T = T), Bool.and_eq_true] at q
  by_cases e : V = T
  · exact e
  · rw [cEq_n e] at q
    exact absurd q.2 (by decide)
theorem suml_al (g : zg) {f : Nat → Int32} {L m : Nat} (k : Nat) : ∀ (o c s i : Nat) (M N : zM), (o = 0 ∨ o = 2 ∨ o = 3) → TKS 0 f L c m M.1 N.1 → LG s M.1 N.1 → s + eO o ≤ c → 2 * i ≤ c → m ≤ c + k → SumR g f L m o c s i M N := by
  have stp : ∀ (o c s i : Nat) (M N : zM), (o = 0 ∨ o = 2 ∨ o = 3) → TKS 0 f L c m M.1 N.1 → LG s M.1 N.1 → s + eO o ≤ c → 2 * i ≤ c → (∀ (o2 c2 s2 i2 : Nat) (M2 N2 : zM), c < c2 → (o2 = 0 ∨ o2 = 2 ∨ o2 = 3) → TKS 0 f L c2 m M2.1 N2.1 → LG s2 M2.1 N2.1 → s2 + eO o2 ≤ c2 → 2 * i2 ≤ c2 → SumR g f L m o2 c2 s2 i2 M2 N2) → SumR g f L m o c s i M N := by
    intro o c s i M N ho h hl hs hi IH
    have hm : m ≤ 400 := h.2.1.1
    have hcm : c ≤ m := h.2.1.2.1
    have eo1 : eO o ≤ 1 := by unfold eO; split <;> omega
    obtain ⟨ok, I1, J1, q1, q2, q3, q4, q5, q6⟩ := unit_al g h hl (by omega)
    have cl : zX (t_X4_readSum g) 7 [some (.ref 56), some (.ref 1), some (.int (adO o)), some (.int 0), some (.int (nI i)), none] [] M = (bif ok then smT g (adO o) (nI i) (I1, M.2) else some (some (.int 0), (I1, M.2))) := by
      rw [e_X4_readSum_7, clT (c := 400) (n := 400) rfl (by omega) (by omega), bif_t, show cEq (0 : Int32) 47 = false from rfl, bif_f, e_X4_readSum_28, q1, zbI_s]
      cases ok <;> rfl
    have rf : zbI (X_X12_readProduct g [.ref 72] N) (smK g o) = zbI (bif ok then zX (t_X12_readProduct g) 10 [some (.ref 72), none] [] (J1, N.2) else some (some (.int (-1)), (J1, N.2))) (smK g o) := by
      rw [x_X12_readProduct_0, q2, zbI_s]
      cases ok <;> rfl
    cases ok
    · exact ⟨false, I1, J1, cl, rf, q3, q4, q5, fun c => absurd c (by decide)⟩
    · obtain ⟨w1, w2, w3, x1, w4⟩ := q6 rfl
      rw [bif_t] at cl rf
      obtain ⟨ok, I2, J2, p1, p2, p3, p4, p5⟩ := prol_al g (a2 := adO o) (m - (c + 1)) (c + 1) (s + 1) i (I1, M.2) (J1, N.2) w2 w3 (by omega) (by omega) (by omega)
      dsimp only at p1 p2 p3
      rw [p1, zbI_s] at rf
      have fc : GFc s M.1 I2 := GFc_t q3 p2 (by omega)
      have fm : GFm s N.1 J2 := GFm_t q4 p3 (by omega)
      cases ok
      · obtain ⟨y1, y2⟩ := p4 rfl
        exact ⟨false, I2, J2, cl.trans y1, rf, fc, fm, fun _ => y2, fun c => absurd c (by decide)⟩
      · obtain ⟨c2, s2, i2, y1, y2, y3, y4, y5, y6, y7, y8⟩ := p5 rfl
        obtain ⟨x2, y9⟩ := y8 x1
        have hc2 : c2 ≤ m := y2.2.1.2.1
        have ty12 : ∀ pre st : List Nat, pre.length = eO o → st.length ≤ 26 → TY J2 s s2 (pre ++ st) (x2 :: (pre ++ st)) := by
          intro pre st h1 h2
          have hlen : (pre ++ st).length ≤ 27 := by rw [List.length_append]; omega
          exact TY_t (TY_x (w4 (pre ++ st) (by omega)) (fun j hj => p3.2.2 (800 + j) (by omega))) (y9 (pre ++ st) (by omega))
        have fin : ∀ (s3 x3 : Nat) (I3 J3 : zI), zX (t_X4_readSum g) 7 [some (.ref 56), some (.ref 1), some (.int (adO o)), some (.int 0), some (.int (nI i)), none] [] M = (bif cEq (I3 3 c2) 43 then (zbV (X_X9_step g [.ref 1] (I3, M.2)) (fun M1 => zX (t_X4_readSum g) 7 [some (.ref 56), some (.ref 1), some (.int (I3 3 c2)), some (.int 0), some (.int (nI (i2 + 1))), none] [] M1)) else (bif cEq (I3 3 c2) 45 then (zbV (X_X9_step g [.ref 1] (I3, M.2)) (fun M2 => zX (t_X4_readSum g) 7 [some (.ref 56), some (.ref 1), some (.int (I3 3 c2)), some (.int 0), some (.int (nI (i2 + 1))), none] [] M2)) else some (some (.int 1), (I3, M.2)))) → zbI (X_X12_readProduct g [.ref 72] N) (smK g o) = zX (t_X12_readSum g) 10 [some (.ref 72), none] [] (J3, N.2) → GFc s M.1 I3 → GFm s N.1 J3 → TKS 0 f L c2 m I3 J3 → LG s3 I3 J3 → s ≤ s3 → s3 ≤ s2 + eO o → (∀ pre st : List Nat, pre.length = eO o → st.length ≤ 26 → TY J3 s s3 (pre ++ st) (x3 :: st)) → SumR g f L m o c s i M N := by
          intro s3 x3 I3 J3 cl3 rf3 fc3 fm3 t3 l3 hs3 hs3' ty3
          have i43 := isSignM_s g (j := 0) (by omega) (N := (J3, N.2)) t3 (s := 43) (by decide)
          have i45 := isSignM_s g (j := 0) (by omega) (N := (J3, N.2)) t3 (s := 45) (by decide)
          have tr := (TKS_r (by omega) t3).1
          rw [e_X12_readSum_10, i43, zbI_s, cEq0_b01, i45, zbI_s, cEq0_b01] at rf3
          have go : ∀ o2 : Nat, (o2 = 2 ∨ o2 = 3) → I3 3 c2 = adO o2 → SumR g f L m o c s i M N := by
            intro o2 ho2 hT
            obtain ⟨s1, s2'⟩ := stepC_s g (j := 0) (M := (I3, M.2)) (by omega) t3 (by dsimp only; rw [hT]; rcases ho2 with e | e <;> rw [e] <;> decide)
            obtain ⟨J4, r1, r2, r3⟩ := readsM_s g (N := (J3, N.2)) t3 s1
            dsimp only at s2' r1 r2
            have hV : J3 72 17 = adO o2 := by rw [sg_v tr (by rw [hT]; rcases ho2 with e | e <;> rw [e] <;> decide), hT]
            have lg4 : LG s3 (zu I3 1 4 (nI (c2 + 1))) J4 := LGq_p l3 (PFc_u (by omega)) (PFm_d r2)
            have eo2 : eO o2 = 1 := by unfold eO; rw [if_neg (by omega)]
            obtain ⟨ok, I', J', z1, z2, z3, z4, z5, z6⟩ := IH o2 (c2 + 1) s3 (i2 + 1) ((zu I3 1 4 (nI (c2 + 1))), M.2) (J4, N.2) (by omega) (by omega) r3 lg4 (by omega) (by omega)
            dsimp only at z1 z2 z3 z4
            refine ⟨ok, I', J', ?_, ?_, GFc_t fc3 (GFc_t (GFc_p (PFc_u (by omega))) z3 (Nat.le_refl _)) hs3, GFm_t fm3 (GFm_t (GFm_p (PFm_d r2)) z4 (Nat.le_refl _)) hs3, z5, fun hok => ?_⟩
            · rw [cl3, s2', zbV_s, hT, z1]
              rcases ho2 with e | e <;> rw [e] <;> rfl
            · rw [rf3, hT]
              have e28 : zX (t_X12_readSum g) 28 [some (.ref 72), none] [] (J3, N.2) = zbI (X_X12_readProduct g [.ref 72] (J4, N.2)) (smK g o2) := by
                rw [e_X12_readSum_28]
                dsimp only
                rw [hV]
                rcases ho2 with e | e
                · rw [e, show cEq (adO 2) 43 = true from rfl, bif_t, r1, zbV_s]
                  rfl
                · rw [e, show cEq (adO 3) 43 = false from rfl, bif_f, r1, zbV_s]
                  rfl
              rw [e28, z2]
              rcases ho2 with e | e <;> rw [e] <;> rfl
            · obtain ⟨c', s', v1, v2, v3, v4, v5, x', v6⟩ := z6 hok
              refine ⟨c', s', v1, v2, by omega, by omega, by omega, x', fun pre st h1 h2 => ?_⟩
              exact TY_t (TY_x (ty3 pre st h1 h2) (fun j hj => ⟨((z4.2.2 (800 + j) (by omega)).1).trans (by rw [r2.1 86 (by omega)]), ((z4.2.2 (800 + j) (by omega)).2).trans (by rw [r2.1 87 (by omega)])⟩)) (v6 [x3] st (by rw [eo2]; rfl) h2)
          by_cases u1 : I3 3 c2 = 43
          · exact go 2 (Or.inl rfl) u1
          · by_cases u2 : I3 3 c2 = 45
            · exact go 3 (Or.inr rfl) u2
            · rw [cEq_n u1, bif_f, cEq_n u2, bif_f] at cl3
              rw [cEq_n u1, Bool.not_false, bif_t, cEq_n u2, Bool.not_false, bif_t] at rf3
              exact ⟨true, I3, J3, cl3, rf3, fc3, fm3, fun c => absurd c (by decide), fun _ => ⟨c2, s3, t3, l3, hs3, by omega, by omega, x3, ty3⟩⟩
        rw [y1, e_X4_readSum_72, show cEq0 (0 : Int32) = true from rfl, bif_t] at cl
        by_cases e0 : o = 0
        · subst e0
          rw [show cEq0 (adO 0) = true from rfl, bif_t, nI_s1] at cl
          refine fin s2 x2 I2 J2 cl ?_ fc fm y2 y3 (by omega) (by omega) (fun pre st h1 h2 => ?_)
          · rw [rf]
            unfold smK
            rw [if_pos rfl]
            rfl
          · have e : pre = [] := List.eq_nil_of_length_eq_zero h1
            subst e
            exact ty12 [] st h1 h2
        · have eo : eO o = 1 := by unfold eO; rw [if_neg e0]
          have s400 : s2 < 400 := by omega
          have hcd : cdOf o 0 = -(adO o) := by rcases ho with e | e | e <;> rw [e] <;> rfl
          have na : cEq0 (adO o) = false := by
            rcases ho with e | e | e
            · exact absurd e e0
            · rw [e]; rfl
            · rw [e]; rfl
          obtain ⟨l1, l2, l3⟩ := LG_em (o := o) (v := 0) y3 s400 (by omega) (by omega)
          rw [na, bif_f, ← hcd, emitC_s g (M := (I2, M.2)) y3.2.1 s400, zbV_s, nI_s1] at cl
          refine fin (s2 + 1) 0 (eC I2 s2 (cdOf o 0)) (eM J2 s2 (nI o) (nI 0)) ?_ ?_ (GFc_t fc (GFc_e (Nat.le_refl s2)) (by omega)) (GFm_t fm (GFm_e (Nat.le_refl s2)) (by omega)) (TKS_e y2) l1 (by omega) (by omega) (fun pre st h1 h2 => ?_)
          · rw [show (eC I2 s2 (cdOf o 0)) 3 c2 = I2 3 c2 from by rw [eC_ne (by omega)]]
            exact cl
          · rw [rf]
            unfold smK
            rw [if_neg e0]
            show zbV (X_X12_emits g [.ref 72, .int (nI o), .int 0] (J2, N.2)) _ = _
            rw [emitsM_s g (N := (J2, N.2)) (s := s2) y3.2.2.1 s400, zbV_s]
            rfl
          · have t12 := ty12 pre st h1 h2
            match pre, h1 with
            | [y], _ =>
              refine TY_t (TY_x t12 (fun j hj => eM_86 (by omega))) (TY_1 ?_)
              rw [l2, l3]
              exact Or.inr (Or.inr (Or.inr (Or.inl ⟨by omega, x2, y, st, rfl, rfl⟩)))
            | [], h1 => exact absurd (h1.trans eo) (by decide)
            | _ :: _ :: _, h1 =>
              rw [eo] at h1
              simp at h1
  induction k with
  | zero =>
    intro o c s i M N ho h hl hs hi hk
    refine stp o c s i M N ho h hl hs hi (fun o2 c2 s2 i2 M2 N2 u1 _ u2 _ _ _ => ?_)
    have := u2.2.1.2.1
    omega
  | succ k ih =>
    intro o c s i M N ho h hl hs hi hk
    exact stp o c s i M N ho h hl hs hi (fun o2 c2 s2 i2 M2 N2 u1 u2 u3 u4 u5 u6 => ih o2 c2 s2 i2 M2 N2 u2 u3 u4 u5 u6 (by omega))
theorem sum_al (g : zg) {f : Nat → Int32} {L c m s : Nat} {M N : zM} (h : TKS 0 f L c m M.1 N.1) (hl : LG s M.1 N.1) (hs : s ≤ c) : ∃ ok I' J', X_X4_readSum g [.ref 56, .ref 1] M = some (some (.int (b01 ok)), (I', M.2)) ∧ X_X12_readSum g [.ref 72] N = some (some (.int (bif ok then 0 else -1)), (J', N.2)) ∧ GFc s M.1 I' ∧ GFm s N.1 J' ∧ (ok = false → FL I' J') ∧ (ok = true → ∃ c' s', TKS 0 f L c' m I' J' ∧ LG s' I' J' ∧ s ≤ s' ∧ c < c' ∧ s' + c ≤ s + c' ∧ ∃ x, ∀ st : List Nat, st.length ≤ 26 → TY J' s s' st (x :: st)) := by
  obtain ⟨ok, I', J', z1, z2, z3, z4, z5, z6⟩ := suml_al g m 0 c s 0 M N (Or.inl rfl) h hl hs (by omega) (by omega)
  refine ⟨ok, I', J', ?_, ?_, z3, z4, z5, fun hok => ?_⟩
  · rw [x_X4_readSum_0]
    exact z1
  · rw [x_X12_readSum_0, ← z2]
    congr 1
  · obtain ⟨c', s', v1, v2, v3, v4, v5, x, v6⟩ := z6 hok
    exact ⟨c', s', v1, v2, v3, v4, v5, x, fun st hst => v6 [] st rfl hst⟩
