/-! PURE ROWS: a unit of the law, on both sides -/
theorem uk_w : ∀ i : Fin 16, (cLt (128 + nI i) 128 = false ∧ cLt (128 + nI i) 137 = decide (i.val < 9) ∧ cEq (128 + nI i) 1 = false ∧ inb (nI (wmp 0 i)) 7 15 = decide (i.val < 9)) := by decide +kernel
theorem uk_m : ∀ m : Fin 25, (∀ i : Fin 16, ¬ wmp 0 i = m.val) → inb (nI m) 7 15 = false := by decide +kernel
theorem uk0 {T W K V : Int32} (h : TKR 0 T W K V) : (∃ i, i < 9 ∧ T = 128 + nI i ∧ K = 2 ∧ V = nI (i + 7)) ∨ (T = 1 ∧ K = 3 ∧ ∃ v, v < 10000 ∧ W = nI v ∧ V = nI v) ∨ ((cLt T 128 = true ∨ (cLt T 128 = false ∧ cLt T 137 = false)) ∧ cEq T 1 = false ∧ cEq K 3 = false ∧ (cEq K 2 = true → inb V 7 15 = false)) := by
  rcases h with ⟨h1, h2⟩ | ⟨h1, h2, h3⟩ | ⟨h1, h2, h3⟩ | ⟨i, h1, h2, h3, h4⟩ | ⟨h1, h2⟩
  · right
    right
    rw [h1, h2]
    exact ⟨Or.inl rfl, rfl, rfl, fun c => absurd c (by decide)⟩
  · exact Or.inr (Or.inl ⟨h1, h2, h3⟩)
  · right
    right
    rw [h2]
    refine ⟨Or.inl ?_, ?_, rfl, fun c => absurd c (by decide)⟩
    · rcases sg_in h1 with h | h | h | h | h | h | h | h | h | h <;> rw [h] <;> rfl
    · rcases sg_in h1 with h | h | h | h | h | h | h | h | h | h <;> rw [h] <;> rfl
  · have hi : i < 16 := h1
    obtain ⟨w1, w2, w3, w4⟩ := uk_w ⟨i, hi⟩
    dsimp only at w1 w2 w3 w4
    by_cases e : i < 9
    · left
      refine ⟨i, e, h2, h3, ?_⟩
      rw [h4]
      unfold wmp
      rw [if_pos rfl, if_pos e]
    · right
      right
      rw [decide_eq_false e] at w2 w4
      rw [h2, h3, h4]
      exact ⟨Or.inr ⟨w1, w2⟩, w3, rfl, fun _ => w4⟩
  · right
    right
    rw [h1]
    refine ⟨Or.inl rfl, rfl, ?_, ?_⟩
    · rcases h2 with h2 | ⟨h2, _⟩ <;> rw [h2] <;> rfl
    · intro c
      rcases h2 with h2 | ⟨h2, m, m1, m2, m3⟩
      · rw [h2] at c
        exact absurd c (by decide)
      · rw [m2]
        exact uk_m ⟨m, m1⟩ (fun i => m3 i i.isLt)
theorem canAskM_s (g : zg) (a : Int32) (N : zM) : X_X12_canAsk g [.ref 72, .int a] N = some (some (.int (b01 (inb a 7 15))), N) := by
  rw [x_X12_canAsk_0, isIn_s, zbI_s, b01_and1, bif_t]
/-- a code told, then on -/
theorem uem (g : zg) {f : Nat → Int32} {L c m s o v : Nat} {M N : zM} (h : TKS 0 f L c m M.1 N.1) (hl : LG s M.1 N.1) (hs : s < 400) (hT : ¬ M.1 3 c = 0) (ho : o < 10000) (hv : v < 10000) : ∃ I' J', zbV (X_X4_emit g [.ref 56, .int (cdOf o v)] M) (fun M4 => zbV (X_X9_step g [.ref 1] M4) (fun M5 => some (some (Value.int 1), M5))) = some (some (.int 1), (I', M.2)) ∧ zbV (X_X12_emits g [.ref 72, .int (nI o), .int (nI v)] N) (fun M1 => zbV (X_X12_reads g [.ref 72] M1) (fun M2 => some (some (Value.int 0), M2))) = some (some (.int 0), (J', N.2)) ∧ GFc s M.1 I' ∧ GFm s N.1 J' ∧ c < m ∧ TKS 0 f L (c + 1) m I' J' ∧ LG (s + 1) I' J' ∧ oJ J' s = o ∧ kJ J' s = v := by
  obtain ⟨l1, l2, l3⟩ := LG_em hl hs ho hv
  have tk : TKS 0 f L c m (eC M.1 s (cdOf o v)) (eM N.1 s (nI o) (nI v)) := TKS_e h
  obtain ⟨s1, s2⟩ := stepC_s g (M := (eC M.1 s (cdOf o v), M.2)) (by omega) tk (by dsimp only; rw [eC_ne (by omega)]; exact hT)
  obtain ⟨J', r1, r2, r3⟩ := readsM_s g (N := (eM N.1 s (nI o) (nI v), N.2)) tk s1
  dsimp only at s2 r1 r2
  have pm := PFm_d r2
  have e86 : J' 86 = eM N.1 s (nI o) (nI v) 86 := pm.1 86 (by omega)
  have e87 : J' 87 = eM N.1 s (nI o) (nI v) 87 := pm.1 87 (by omega)
  refine ⟨_, J', ?_, ?_, GFc_t (GFc_e (Nat.le_refl s)) (GFc_p (PFc_u (by omega))) (Nat.le_refl s), GFm_t (GFm_e (Nat.le_refl s)) (GFm_p pm) (Nat.le_refl s), s1, r3, LGq_p l1 (PFc_u (by omega)) pm, ?_, ?_⟩
  · rw [emitC_s g hl.2.1 hs, zbV_s, s2, zbV_s]
  · rw [emitsM_s g (s := s) hl.2.2.1 hs, zbV_s, r1, zbV_s]
  · rw [oJ_x (J := eM N.1 s (nI o) (nI v)) (by rw [e86])]
    exact l2
  · rw [kJ_x (J := eM N.1 s (nI o) (nI v)) (by rw [e87])]
    exact l3
theorem unit_al (g : zg) {f : Nat → Int32} {L c m s : Nat} {M N : zM} (h : TKS 0 f L c m M.1 N.1) (hl : LG s M.1 N.1) (hs : s ≤ c) : ∃ ok I' J', X_X4_readUnit g [.ref 56, .ref 1, .int 0] M = some (some (.int (b01 ok)), (I', M.2)) ∧ X_X12_readUnit g [.ref 72] N = some (some (.int (bif ok then 0 else -1)), (J', N.2)) ∧ GFc s M.1 I' ∧ GFm s N.1 J' ∧ (ok = false → FL I' J') ∧ (ok = true → c < m ∧ TKS 0 f L (c + 1) m I' J' ∧ LG (s + 1) I' J' ∧ ∃ x, ∀ st : List Nat, st.length < 32 → TY J' s (s + 1) st (x :: st)) := by
  have tr := (TKS_r (by omega) h).1
  have hm : m ≤ 400 := h.2.1.1
  have hcm : c ≤ m := h.2.1.2.1
  have hlt : ¬ M.1 3 c = 0 → s < 400 := by
    intro hT
    have q := (stepC_s g (j := 0) (by omega) h hT).1
    omega
  rcases uk0 tr with ⟨i, i1, i2, i3, i4⟩ | ⟨t1, t2, v, v1, v2, v3⟩ | ⟨d1, d2, d3, d4⟩
  · have hT : ¬ M.1 3 c = 0 := by
      rw [i2]
      exact wd_nz (j := 0) (by omega) (by show i < 16; omega)
    obtain ⟨I', J', q1, q2, q3, q4, q5, q6, q7, q8, q9⟩ := uem g (o := 1) (v := i) h hl (hlt hT) hT (by omega) (by omega)
    refine ⟨true, I', J', ?_, ?_, q3, q4, fun c => absurd c (by decide), fun _ => ⟨q5, q6, q7, 0, fun st hst => TY_1 ?_⟩⟩
    · obtain ⟨w1, w2, w3, w4⟩ := uk_w ⟨i, by omega⟩
      dsimp only at w1 w2 w3
      rw [decide_eq_true i1] at w2
      rw [x_X4_readUnit_0, tokenC_s g h, zbI_s, i2, w1, bif_f, w2, bif_t, w3, bif_f, show cEq0 (0 : Int32) = true from rfl, bif_t, e_X4_readUnit_46, show cEq0 (0 : Int32) = true from rfl, bif_t, show cEq0 (1 : Int32) = false from rfl, bif_f, show (128 + nI i : Int32) = nI (128 + i) from by rw [show (128 : Int32) = nI 128 from rfl, nI_ad2]]
      exact q1
    · rw [x_X12_readUnit_0, i3, show cEq (2 : Int32) 2 = true from rfl, bif_t, canAskM_s, zbI_s, i4, show inb (nI (i + 7)) 7 15 = true from by
        have q := inb_nI (a := 7) (b := 15) (k := i + 7) (by omega) (by omega) (by omega)
        rw [decide_eq_true (by omega), decide_eq_true (by omega)] at q
        exact q, show cEq0 (b01 true) = false from rfl, bif_f, e_X12_readUnit_43, show cEq0 (1 : Int32) = false from rfl, bif_f, bif_f, i4, show (nI (i + 7) - 7 : Int32) = nI i from by rw [show (7 : Int32) = nI 7 from rfl, nI_sub (by omega), show i + 7 - 7 = i from by omega]]
      exact q2
    · rw [q8, q9]
      exact Or.inr (Or.inl ⟨rfl, hst, i1, rfl⟩)
  · have hT : ¬ M.1 3 c = 0 := by
      rw [t1]
      decide
    obtain ⟨I', J', q1, q2, q3, q4, q5, q6, q7, q8, q9⟩ := uem g (o := 0) (v := v) h hl (hlt hT) hT (by omega) v1
    refine ⟨true, I', J', ?_, ?_, q3, q4, fun c => absurd c (by decide), fun _ => ⟨q5, q6, q7, (if v = 0 then 0 else 2), fun st hst => TY_1 ?_⟩⟩
    · rw [x_X4_readUnit_0, tokenC_s g h, zbI_s, t1, show cLt (1 : Int32) 128 = true from rfl, bif_t, show cEq (1 : Int32) 1 = true from rfl, bif_t, e_X4_readUnit_46, show cEq0 (0 : Int32) = true from rfl, bif_t, bif_t, numberC_s g h, zbI_s, v2]
      exact q1
    · rw [x_X12_readUnit_0, t2, show cEq (3 : Int32) 2 = false from rfl, bif_f, show cEq (3 : Int32) 3 = true from rfl, bif_t, e_X12_readUnit_43, show cEq0 (0 : Int32) = true from rfl, bif_t, bif_t, v3]
      exact q2
    · rw [q8, q9]
      exact Or.inl ⟨rfl, hst, by omega, rfl⟩
  · obtain ⟨f1, f2, f3⟩ := fl_al (I := M.1) (J := N.1) 1 (nI (plS f L 0 c))
    refine ⟨false, _, _, ?_, ?_, GFc_p f1, GFm_p f2, fun _ => f3, fun c => absurd c (by decide)⟩
    · rw [x_X4_readUnit_0, tokenC_s g h, zbI_s, d2]
      rcases d1 with e | ⟨e1, e2⟩
      · rw [e, bif_t, bif_f, refuC_s g (j := 0) (by omega) h, zbI_s]
        rfl
      · rw [e1, bif_f, e2, bif_f, bif_f, refuC_s g (j := 0) (by omega) h, zbI_s]
        rfl
    · rw [x_X12_readUnit_0, d3]
      cases e : cEq (N.1 72 16) 2
      · rw [bif_f, bif_f, errsM_s g (j := 0) (by omega) h, zbI_s]
        rfl
      · rw [bif_t, canAskM_s, zbI_s, d4 e, show cEq0 (b01 false) = true from rfl, bif_t, d3, bif_f, errsM_s g (j := 0) (by omega) h, zbI_s]
        rfl
/-- a number behind / -/
theorem unitD_al (g : zg) {f : Nat → Int32} {L c m s : Nat} {M N : zM} (h : TKS 0 f L c m M.1 N.1) (hl : LG s M.1 N.1) (hs : s ≤ c) : ∃ ok I' J', X_X4_readUnit g [.ref 56, .ref 1, .int 1] M = some (some (.int (b01 ok)), (I', M.2)) ∧ (bif cEq (N.1 72 16) 3 then (bif cEq0 (N.1 72 17) then (zbI (X_X12_errs g [.ref 72, .int 2] N) (fun x1 M1 => some (some (Value.int x1), M1))) else X_X12_readUnit g [.ref 72] N) else (zbI (X_X12_errs g [.ref 72, .int 1] N) (fun x5 M5 => some (some (Value.int x5), M5)))) = some (some (.int (bif ok then 0 else -1)), (J', N.2)) ∧ GFc s M.1 I' ∧ GFm s N.1 J' ∧ (ok = false → FL I' J') ∧ (ok = true → c < m ∧ TKS 0 f L (c + 1) m I' J' ∧ LG (s + 1) I' J' ∧ (cEq (N.1 72 16) 3 = true ∧ cEq0 (N.1 72 17) = false) ∧ ∀ st : List Nat, st.length < 32 → TY J' s (s + 1) st (2 :: st)) := by
  have tr := (TKS_r (by omega) h).1
  have hm : m ≤ 400 := h.2.1.1
  have hcm : c ≤ m := h.2.1.2.1
  have bad : ∀ a : Int32, (X_X4_readUnit g [.ref 56, .ref 1, .int 1] M = (zbI (X_X9_refuse g [.ref 1, .int a] M) (fun x2 M2 => (bif cEq (x2 &&& 1) x2 then some (some (Value.int x2), M2) else none)))) → ((bif cEq (N.1 72 16) 3 then (bif cEq0 (N.1 72 17) then (zbI (X_X12_errs g [.ref 72, .int 2] N) (fun x1 M1 => some (some (Value.int x1), M1))) else X_X12_readUnit g [.ref 72] N) else (zbI (X_X12_errs g [.ref 72, .int 1] N) (fun x5 M5 => some (some (Value.int x5), M5)))) = (zbI (X_X12_errs g [.ref 72, .int a] N) (fun x1 M1 => some (some (Value.int x1), M1)))) → ∃ ok I' J', X_X4_readUnit g [.ref 56, .ref 1, .int 1] M = some (some (.int (b01 ok)), (I', M.2)) ∧ (bif cEq (N.1 72 16) 3 then (bif cEq0 (N.1 72 17) then (zbI (X_X12_errs g [.ref 72, .int 2] N) (fun x1 M1 => some (some (Value.int x1), M1))) else X_X12_readUnit g [.ref 72] N) else (zbI (X_X12_errs g [.ref 72, .int 1] N) (fun x5 M5 => some (some (Value.int x5), M5)))) = some (some (.int (bif ok then 0 else -1)), (J', N.2)) ∧ GFc s M.1 I' ∧ GFm s N.1 J' ∧ (ok = false → FL I' J') ∧ (ok = true → c < m ∧ TKS 0 f L (c + 1) m I' J' ∧ LG (s + 1) I' J' ∧ (cEq (N.1 72 16) 3 = true ∧ cEq0 (N.1 72 17) = false) ∧ ∀ st : List Nat, st.length < 32 → TY J' s (s + 1) st (2 :: st)) := by
    intro a e1 e2
    obtain ⟨f1, f2, f3⟩ := fl_al (I := M.1) (J := N.1) a (nI (plS f L 0 c))
    refine ⟨false, _, _, ?_, ?_, GFc_p f1, GFm_p f2, fun _ => f3, fun c => absurd c (by decide)⟩
    · rw [e1, refuC_s g (j := 0) (by omega) h, zbI_s]
      rfl
    · rw [e2, errsM_s g (j := 0) (by omega) h, zbI_s]
      rfl
  rcases uk0 tr with ⟨i, i1, i2, i3, i4⟩ | ⟨t1, t2, v, v1, v2, v3⟩ | ⟨d1, d2, d3, d4⟩
  · refine bad 1 ?_ ?_
    · obtain ⟨w1, w2, w3, w4⟩ := uk_w ⟨i, by omega⟩
      dsimp only at w1 w2 w3
      rw [decide_eq_true i1] at w2
      rw [x_X4_readUnit_0, tokenC_s g h, zbI_s, i2, w1, bif_f, w2, bif_t, w3, bif_f, show cEq0 (1 : Int32) = false from rfl, bif_f]
    · rw [i3, show cEq (2 : Int32) 3 = false from rfl, bif_f]
  · by_cases v0 : v = 0
    · subst v0
      refine bad 2 ?_ ?_
      · rw [x_X4_readUnit_0, tokenC_s g h, zbI_s, t1, show cLt (1 : Int32) 128 = true from rfl, bif_t, show cEq (1 : Int32) 1 = true from rfl, bif_t, e_X4_readUnit_46, show cEq0 (1 : Int32) = false from rfl, bif_f, numberC_s g h, zbI_s, v2, show cEq0 (nI 0) = true from rfl, bif_t]
      · rw [t2, show cEq (3 : Int32) 3 = true from rfl, bif_t, v3, show cEq0 (nI 0) = true from rfl, bif_t]
    · have hT : ¬ M.1 3 c = 0 := by
        rw [t1]
        decide
      have z0 : cEq0 (nI v) = false := by rw [cEq0_nI (by omega), decide_eq_false v0]
      have hlt : s < 400 := by
        have q := (stepC_s g (j := 0) (by omega) h hT).1
        omega
      obtain ⟨I', J', q1, q2, q3, q4, q5, q6, q7, q8, q9⟩ := uem g (o := 0) (v := v) h hl hlt hT (by omega) v1
      refine ⟨true, I', J', ?_, ?_, q3, q4, fun c => absurd c (by decide), fun _ => ⟨q5, q6, q7, ⟨by rw [t2]; rfl, by rw [v3]; exact z0⟩, fun st hst => TY_1 ?_⟩⟩
      · rw [x_X4_readUnit_0, tokenC_s g h, zbI_s, t1, show cLt (1 : Int32) 128 = true from rfl, bif_t, show cEq (1 : Int32) 1 = true from rfl, bif_t, e_X4_readUnit_46, show cEq0 (1 : Int32) = false from rfl, bif_f, numberC_s g h, zbI_s, v2, z0, bif_f, show cEq0 (0 : Int32) = true from rfl, bif_t, numberC_s g h, zbI_s, v2]
        exact q1
      · rw [t2, show cEq (3 : Int32) 3 = true from rfl, bif_t, v3, z0, bif_f, x_X12_readUnit_0, t2, show cEq (3 : Int32) 2 = false from rfl, bif_f, show cEq (3 : Int32) 3 = true from rfl, bif_t, e_X12_readUnit_43, show cEq0 (0 : Int32) = true from rfl, bif_t, bif_t, v3]
        exact q2
      · rw [q8, q9]
        refine Or.inl ⟨rfl, hst, by omega, ?_⟩
        rw [if_neg v0]
  · refine bad 1 ?_ ?_
    · rw [x_X4_readUnit_0, tokenC_s g h, zbI_s, d2]
      rcases d1 with e | ⟨e1, e2⟩
      · rw [e, bif_t, bif_f, show cEq0 (1 : Int32) = false from rfl, bif_f]
      · rw [e1, bif_f, e2, bif_f, bif_f, show cEq0 (1 : Int32) = false from rfl, bif_f]
    · rw [d3, bif_f]
