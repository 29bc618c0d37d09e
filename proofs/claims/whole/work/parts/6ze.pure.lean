/-! PURE ROWS: units joined, on both sides -/
/-- the class behind a unit -/
noncomputable def smT (g : zg) (a2 a4 : Int32) (M : zM) : Option (Option Value × zM) := zbI (X_X9_token g [.ref 1] M) (fun x2 M2 => (bif cEq x2 42 then zX (t_X4_readSum g) 72 [some (.ref 56), some (.ref 1), some (.int a2), none, some (.int a4), some (.int x2)] [.int x2] M2 else (bif cEq x2 47 then zX (t_X4_readSum g) 72 [some (.ref 56), some (.ref 1), some (.int a2), none, some (.int a4), some (.int x2)] [.int x2] M2 else zX (t_X4_readSum g) 72 [some (.ref 56), some (.ref 1), some (.int a2), none, some (.int a4), some (.int x2)] [.int 0] M2)))
def ProR (g : zg) (f : Nat → Int32) (L m : Nat) (a2 : Int32) (c s i : Nat) (M N : zM) : Prop := ∃ ok I' J', zX (t_X12_readProduct g) 10 [some (.ref 72), none] [] N = some (some (.int (bif ok then 0 else -1)), (J', N.2)) ∧ GFc s M.1 I' ∧ GFm s N.1 J' ∧ (ok = false → smT g a2 (nI i) M = some (some (.int 0), (I', M.2)) ∧ FL I' J') ∧ (ok = true → ∃ c' s' i', smT g a2 (nI i) M = zX (t_X4_readSum g) 72 [some (.ref 56), some (.ref 1), some (.int a2), none, some (.int (nI i')), some (.int (I' 3 c'))] [.int 0] (I', M.2) ∧ TKS 0 f L c' m I' J' ∧ LG s' I' J' ∧ s ≤ s' ∧ c ≤ c' ∧ s' + c ≤ s + c' ∧ 2 * i' + 1 ≤ c' ∧ ∀ x, ∃ x', ∀ st : List Nat, st.length < 30 → TY J' s s' (x :: st) (x' :: st))
/-- the class from * or / on -/
theorem smT_j (g : zg) {f : Nat → Int32} {L c m i : Nat} {a2 T : Int32} {M : zM} {J : zI} (h : TKS 0 f L c m M.1 J) (hT : M.1 3 c = T) (hs : T = 42 ∨ T = 47) (hi : 2 * i + 1 ≤ c) : smT g a2 (nI i) M = (zbI (X_X4_readUnit g [.ref 56, .ref 1, .int (b01 (cEq T 47))] ((zu M.1 1 4 (nI (c + 1))), M.2)) (fun x1 M1 => (bif cEq0 x1 then some (some (.int 0), M1) else (zbV (X_X4_emit g [.ref 56, .int (-T)] M1) (fun M3 => smT g a2 (nI (i + 1)) M3))))) := by
  have hm : m ≤ 400 := h.2.1.1
  obtain ⟨s1, s2⟩ := stepC_s g (j := 0) (by omega) h (by rw [hT]; rcases hs with e | e <;> rw [e] <;> decide)
  have n0 : cEq0 T = false := by rcases hs with e | e <;> rw [e] <;> rfl
  have e1 : smT g a2 (nI i) M = zX (t_X4_readSum g) 72 [some (.ref 56), some (.ref 1), some (.int a2), none, some (.int (nI i)), some (.int T)] [.int T] M := by
    unfold smT
    rw [tokenC_s g h, zbI_s, hT]
    rcases hs with e | e
    · rw [e]
      rfl
    · rw [e]
      rfl
  rw [e1, e_X4_readSum_72, n0, bif_f, s2, zbV_s, nI_s1, e_X4_readSum_7, clT (c := 400) (n := 400) rfl (by omega) (by omega), bif_t]
  have e2 : (bif cEq T 47 then zX (t_X4_readSum g) 28 [some (.ref 56), some (.ref 1), some (.int a2), some (.int T), some (.int (nI (i + 1))), none] [.int 1, .ref 1, .ref 56] ((zu M.1 1 4 (nI (c + 1))), M.2) else zX (t_X4_readSum g) 28 [some (.ref 56), some (.ref 1), some (.int a2), some (.int T), some (.int (nI (i + 1))), none] [.int 0, .ref 1, .ref 56] ((zu M.1 1 4 (nI (c + 1))), M.2)) = zX (t_X4_readSum g) 28 [some (.ref 56), some (.ref 1), some (.int a2), some (.int T), some (.int (nI (i + 1))), none] [.int (b01 (cEq T 47)), .ref 1, .ref 56] ((zu M.1 1 4 (nI (c + 1))), M.2) := by
    cases cEq T 47 <;> rfl
  rw [e2, e_X4_readSum_28, n0]
  rfl
/-- the reference from * or / on -/
theorem pro_j (g : zg) {f : Nat → Int32} {L c m : Nat} {T : Int32} {I J1 : zI} {N : zM} (h : TKS 0 f L c m I N.1) (hT : I 3 c = T) (hs : T = 42 ∨ T = 47) (hr : X_X12_reads g [.ref 72] N = some (none, (J1, N.2))) : zX (t_X12_readProduct g) 10 [some (.ref 72), none] [] N = (bif cEq T 47 then (bif cEq (J1 72 16) 3 then (bif cEq0 (J1 72 17) then (zbI (X_X12_errs g [.ref 72, .int 2] (J1, N.2)) (fun x1 M1 => some (some (.int x1), M1))) else (zbI (X_X12_readUnit g [.ref 72] (J1, N.2)) (fun x2 M2 => (bif cEq x2 (-1) then some (some (.int (-1)), M2) else (zbV (X_X12_emits g [.ref 72, .int 5, .int 0] M2) (fun M3 => zX (t_X12_readProduct g) 10 [some (.ref 72), none] [] M3)))))) else (zbI (X_X12_errs g [.ref 72, .int 1] (J1, N.2)) (fun x5 M5 => some (some (.int x5), M5)))) else (zbI (X_X12_readUnit g [.ref 72] (J1, N.2)) (fun x5 M5 => (bif cEq x5 (-1) then some (some (.int (-1)), M5) else (zbV (X_X12_emits g [.ref 72, .int 4, .int 0] M5) (fun M7 => zX (t_X12_readProduct g) 10 [some (.ref 72), none] [] M7)))))) := by
  have i42 := isSignM_s g (j := 0) (by omega) h (s := 42) (by decide)
  have i47 := isSignM_s g (j := 0) (by omega) h (s := 47) (by decide)
  rw [hT] at i42 i47
  rcases hs with e | e
  · subst e
    rw [show cEq (42 : Int32) 42 = true from rfl] at i42
    rw [e_X12_readProduct_10, i42, zbI_s, show cEq0 (b01 true) = false from rfl, bif_f, i42, zbI_s, hr, zbV_s, show cEq0 (b01 true) = false from rfl, bif_f, e_X12_readProduct_57, show cEq0 (b01 true) = false from rfl, show cEq (42 : Int32) 47 = false from rfl]
    rfl
  · subst e
    rw [show cEq (47 : Int32) 42 = false from rfl] at i42
    rw [show cEq (47 : Int32) 47 = true from rfl] at i47
    rw [e_X12_readProduct_10, i42, zbI_s, show cEq0 (b01 false) = true from rfl, bif_t, i47, zbI_s, show cEq0 (b01 true) = false from rfl, bif_f, i42, zbI_s, hr, zbV_s, show cEq0 (b01 false) = true from rfl, bif_t, e_X12_readProduct_57, show cEq0 (b01 false) = true from rfl, show cEq (47 : Int32) 47 = true from rfl]
    rfl
theorem prol_al (g : zg) {f : Nat → Int32} {L m : Nat} {a2 : Int32} (k : Nat) : ∀ (c s i : Nat) (M N : zM), TKS 0 f L c m M.1 N.1 → LG s M.1 N.1 → s ≤ c → 2 * i + 1 ≤ c → m ≤ c + k → ProR g f L m a2 c s i M N := by
  have stp : ∀ (c s i : Nat) (M N : zM), TKS 0 f L c m M.1 N.1 → LG s M.1 N.1 → s ≤ c → 2 * i + 1 ≤ c → (∀ (c2 s2 i2 : Nat) (M2 N2 : zM), c < c2 → TKS 0 f L c2 m M2.1 N2.1 → LG s2 M2.1 N2.1 → s2 ≤ c2 → 2 * i2 + 1 ≤ c2 → ProR g f L m a2 c2 s2 i2 M2 N2) → ProR g f L m a2 c s i M N := by
    intro c s i M N h hl hs hi IH
    have hm : m ≤ 400 := h.2.1.1
    by_cases hT : M.1 3 c = 42 ∨ M.1 3 c = 47
    · obtain ⟨s1, s2⟩ := stepC_s g (j := 0) (by omega) h (by rcases hT with e | e <;> rw [e] <;> decide)
      obtain ⟨J1, r1, r2, r3⟩ := readsM_s g h s1
      have cl := smT_j g (a2 := a2) h rfl hT hi
      have rf := pro_j g h rfl hT r1
      have lg : LG s (zu M.1 1 4 (nI (c + 1))) J1 := LGq_p hl (PFc_u (by omega)) (PFm_d r2)
      have fc : GFc s M.1 (zu M.1 1 4 (nI (c + 1))) := GFc_p (PFc_u (by omega))
      have fm : GFm s N.1 J1 := GFm_p (PFm_d r2)
      have go : ∀ (o : Nat) (x1 : Nat) (I2 J2 : zI), (o = 4 ∨ (o = 5 ∧ x1 = 2)) → X_X4_readUnit g [.ref 56, .ref 1, .int (b01 (cEq (M.1 3 c) 47))] ((zu M.1 1 4 (nI (c + 1))), M.2) = some (some (.int 1), (I2, M.2)) → zX (t_X12_readProduct g) 10 [some (.ref 72), none] [] N = (zbV (X_X12_emits g [.ref 72, .int (nI o), .int 0] (J2, N.2)) (fun M3 => zX (t_X12_readProduct g) 10 [some (.ref 72), none] [] M3)) → cdOf o 0 = -(M.1 3 c) → GFc s (zu M.1 1 4 (nI (c + 1))) I2 → GFm s J1 J2 → c + 1 < m → TKS 0 f L (c + 1 + 1) m I2 J2 → LG (s + 1) I2 J2 → (∀ st : List Nat, st.length < 32 → TY J2 s (s + 1) st (x1 :: st)) → ProR g f L m a2 c s i M N := by
        intro o x1 I2 J2 ho q1 q2 hcd q3 q4 q5 q6 q7 q8
        have s400 : s + 1 < 400 := by omega
        obtain ⟨l1, l2, l3⟩ := LG_em (o := o) (v := 0) q7 s400 (by omega) (by omega)
        have tk : TKS 0 f L (c + 1 + 1) m (eC I2 (s + 1) (cdOf o 0)) (eM J2 (s + 1) (nI o) (nI 0)) := TKS_e q6
        have cl2 : smT g a2 (nI i) M = smT g a2 (nI (i + 1)) (eC I2 (s + 1) (cdOf o 0), M.2) := by
          rw [cl, q1, zbI_s, show cEq0 (1 : Int32) = false from rfl, bif_f, ← hcd, emitC_s g (M := (I2, M.2)) q7.2.1 s400, zbV_s]
        have rf2 : zX (t_X12_readProduct g) 10 [some (.ref 72), none] [] N = zX (t_X12_readProduct g) 10 [some (.ref 72), none] [] (eM J2 (s + 1) (nI o) (nI 0), N.2) := by
          rw [q2, emitsM_s g (s := s + 1) (N := (J2, N.2)) q7.2.2.1 s400, zbV_s]
          rfl
        have tyo : ∀ (x : Nat) (st : List Nat), TY (eM J2 (s + 1) (nI o) (nI 0)) (s + 1) (s + 1 + 1) (x1 :: x :: st) (0 :: st) := by
          intro x st
          refine TY_1 ?_
          rw [l2, l3]
          rcases ho with e | ⟨e, e2⟩
          · exact Or.inr (Or.inr (Or.inr (Or.inl ⟨by omega, x1, x, st, rfl, rfl⟩)))
          · rw [e2]
            exact Or.inr (Or.inr (Or.inr (Or.inr (Or.inl ⟨e, x, st, rfl, rfl⟩))))
        obtain ⟨ok, I', J', y1, y2, y3, y4, y5⟩ := IH (c + 1 + 1) (s + 1 + 1) (i + 1) (eC I2 (s + 1) (cdOf o 0), M.2) (eM J2 (s + 1) (nI o) (nI 0), N.2) (by omega) tk l1 (by omega) (by omega)
        dsimp only at y1 y2 y3
        refine ⟨ok, I', J', rf2.trans y1, GFc_t fc (GFc_t q3 (GFc_t (GFc_e (by omega)) y2 (by omega)) (Nat.le_refl s)) (Nat.le_refl s), GFm_t fm (GFm_t q4 (GFm_t (GFm_e (by omega)) y3 (by omega)) (Nat.le_refl s)) (Nat.le_refl s), fun hok => ⟨cl2.trans (y4 hok).1, (y4 hok).2⟩, fun hok => ?_⟩
        obtain ⟨c', s', i', z1, z2, z3, z4, z5, z6, z7, z8⟩ := y5 hok
        refine ⟨c', s', i', cl2.trans z1, z2, z3, by omega, by omega, by omega, z7, fun x => ?_⟩
        obtain ⟨x', z9⟩ := z8 0
        have k1 : ∀ j, j < s + 1 + 1 → J' 86 (800 + j) = (eM J2 (s + 1) (nI o) (nI 0)) 86 (800 + j) ∧ J' 87 (800 + j) = (eM J2 (s + 1) (nI o) (nI 0)) 87 (800 + j) := fun j hj => y3.2.2 (800 + j) (by omega)
        have k2 : ∀ j, j < s + 1 → J' 86 (800 + j) = J2 86 (800 + j) ∧ J' 87 (800 + j) = J2 87 (800 + j) := fun j hj => ⟨((k1 j (by omega)).1).trans (eM_86 (by omega)).1, ((k1 j (by omega)).2).trans (eM_86 (by omega)).2⟩
        exact ⟨x', fun st hst => TY_t (TY_x (q8 (x :: st) (by rw [List.length_cons]; omega)) k2) (TY_t (TY_x (tyo x st) k1) (z9 st hst))⟩
      rcases hT with e | e
      · have e47 : cEq (M.1 3 c) 47 = false := by rw [e]; rfl
        obtain ⟨ok, I2, J2, q1, q2, q3, q4, q5, q6⟩ := unit_al g (M := ((zu M.1 1 4 (nI (c + 1))), M.2)) (N := (J1, N.2)) r3 lg (by omega)
        dsimp only at q1 q2 q3 q4
        rw [e47, bif_f, q2, zbI_s] at rf
        cases ok
        · refine ⟨false, I2, J2, rf, GFc_t fc q3 (Nat.le_refl s), GFm_t fm q4 (Nat.le_refl s), fun _ => ⟨?_, q5 rfl⟩, fun c => absurd c (by decide)⟩
          rw [cl, e47, show b01 false = 0 from rfl, q1, zbI_s]
          rfl
        · obtain ⟨w1, w2, w3, x1, w4⟩ := q6 rfl
          exact go 4 x1 I2 J2 (Or.inl rfl) (by rw [e47]; exact q1) rf (by rw [e]; rfl) q3 q4 w1 w2 w3 w4
      · have e47 : cEq (M.1 3 c) 47 = true := by rw [e]; rfl
        obtain ⟨ok, I2, J2, q1, q2, q3, q4, q5, q6⟩ := unitD_al g (M := ((zu M.1 1 4 (nI (c + 1))), M.2)) (N := (J1, N.2)) r3 lg (by omega)
        dsimp only at q1 q2 q3 q4 q6
        rw [e47, bif_t] at rf
        cases ok
        · refine ⟨false, I2, J2, ?_, GFc_t fc q3 (Nat.le_refl s), GFm_t fm q4 (Nat.le_refl s), fun _ => ⟨?_, q5 rfl⟩, fun c => absurd c (by decide)⟩
          · rw [rf]
            cases b1 : cEq (J1 72 16) 3
            · rw [b1, bif_f] at q2
              rw [bif_f]
              exact q2
            · cases b2 : cEq0 (J1 72 17)
              · rw [b1, b2, bif_t, bif_f] at q2
                rw [bif_t, bif_f, q2, zbI_s]
                rfl
              · rw [b1, b2, bif_t, bif_t] at q2
                rw [bif_t, bif_t]
                exact q2
          · rw [cl, e47, show b01 true = 1 from rfl, q1, zbI_s]
            rfl
        · obtain ⟨w1, w2, w3, ⟨b1, b2⟩, w4⟩ := q6 rfl
          rw [b1, b2, bif_t, bif_f] at q2
          rw [b1, b2, bif_t, bif_f, q2, zbI_s] at rf
          exact go 5 2 I2 J2 (Or.inr ⟨rfl, rfl⟩) (by rw [e47]; exact q1) rf (by rw [e]; rfl) q3 q4 w1 w2 w3 w4
    · have n42 : ¬ M.1 3 c = 42 := fun e => hT (Or.inl e)
      have n47 : ¬ M.1 3 c = 47 := fun e => hT (Or.inr e)
      refine ⟨true, M.1, N.1, ?_, GFc_p (PFc_r _), GFm_p (PFm_r _), fun c => absurd c (by decide), fun _ => ⟨c, s, i, ?_, h, hl, Nat.le_refl s, Nat.le_refl c, by omega, hi, fun x => ⟨x, fun st _ => TY_r⟩⟩⟩
      · have i42 := isSignM_s g (j := 0) (by omega) h (s := 42) (by decide)
        have i47 := isSignM_s g (j := 0) (by omega) h (s := 47) (by decide)
        rw [cEq_n n42] at i42
        rw [cEq_n n47] at i47
        rw [e_X12_readProduct_10, i42, zbI_s, show cEq0 (b01 false) = true from rfl, bif_t, i47, zbI_s, show cEq0 (b01 false) = true from rfl, bif_t]
        rfl
      · unfold smT
        rw [tokenC_s g h, zbI_s, cEq_n n42, bif_f, cEq_n n47, bif_f]
  induction k with
  | zero =>
    intro c s i M N h hl hs hi hk
    refine stp c s i M N h hl hs hi (fun c2 s2 i2 M2 N2 u1 u2 _ _ _ => ?_)
    have := u2.2.1.2.1
    omega
  | succ k ih =>
    intro c s i M N h hl hs hi hk
    exact stp c s i M N h hl hs hi (fun c2 s2 i2 M2 N2 u1 u2 u3 u4 u5 => ih c2 s2 i2 M2 N2 u2 u3 u4 u5 (by omega))
