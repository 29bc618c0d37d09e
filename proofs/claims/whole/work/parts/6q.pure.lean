/-! PURE ROWS: a line of the agenda from its word on -/
theorem AFc_q {n : Nat} {I I' : zI} (h : QWc n I I') : AFc I I' := ⟨fun a u1 u2 => h.1 a u1 (by omega) (by omega), h.2.2⟩
theorem AFm_q {n : Nat} {J J' : zI} (h : QWm n J J') : AFm J J' := ⟨h.1, fun k hk => h.2.1 k (by omega) (by omega), h.2.2⟩
/-- the deed is told (i), its word behind us: whom, how much, the end of the line -/
theorem aline_al (g : zg) {f : Nat → Int32} {L c m n t d i : Nat} {dy wt wm mu : Nat → Nat} {M N : zM} (h : TKS 2 f L c m M.1 N.1) (hs : AS n t dy wt wm mu M.1 N.1) (ht : t ≤ 10) (hn : n < 16) (hi : i ≤ 5) (h68 : M.1 68 n = nI d) (h69 : M.1 69 n = nI i) (h90 : N.1 90 (64 + 4 * n) = nI d) (h91 : N.1 90 (64 + 4 * n + 1) = nI i) : ∃ ok I' J', (bif cEq (nI i) 5 then (zbI (X_X9_expect g [.ref 1, .int 59] ((zu M.1 67 4 (nI (n + 1))), M.2)) (fun x7 M7 => (bif cEq (x7 &&& 1) x7 then some (some (Value.int x7), M7) else none))) else (zbI (X_X0_readWhom g [.ref 67, .ref 1, .int (nI t)] M) (fun x8 M8 => (bif cEq0 x8 then some (some (Value.int 0), M8) else (zbI (X_X9_expect g [.ref 1, .int 59] ((zu M8.1 67 4 ((M8.1 67 4) + 1)), M8.2)) (fun x9 M9 => (bif cEq (x9 &&& 1) x9 then some (some (Value.int x9), M9) else none))))))) = some (some (Value.int (b01 ok)), (I', M.2)) ∧ (bif cEq (nI i) 5 then zX (t_X12_readDeed g) 84 [some (.ref 72), some (.int (nI (64 + 4 * n))), some (.int (nI i))] [.int 0, .int (nI (64 + 4 * n) + 2), .ref 90] N else (zbI (X_X12_readNumber g [.ref 72, .int 0, .int (nI t - 1)] N) (fun x5 M5 => zX (t_X12_readDeed g) 84 [some (.ref 72), some (.int (nI (64 + 4 * n))), some (.int (nI i))] [.int x5, .int (nI (64 + 4 * n) + 2), .ref 90] M5))) = some (some (Value.int (bif ok then 0 else -1)), (J', N.2)) ∧ AFc M.1 I' ∧ AFm N.1 J' ∧ (ok = false → FL I' J') ∧ (ok = true → ∃ c' dy' wt' wm' mu', TKS 2 f L c' m I' J' ∧ AS (n + 1) t dy' wt' wm' mu' I' J') := by
  have fin : ∀ (c2 w u : Nat) (I2 J2 : zI), TKS 2 f L c2 m I2 J2 → AFc M.1 I2 → AFm N.1 J2 → I2 67 4 = nI n → (∀ k, k < n ∨ k = n → I2 68 k = M.1 68 k ∧ I2 69 k = M.1 69 k) → (∀ k, k < n → I2 70 k = M.1 70 k ∧ I2 71 k = M.1 71 k) → (∀ k, k < 64 + 4 * n + 2 → J2 90 k = N.1 90 k) → (i ≤ 4 → (I2 70 n = nI w ∧ J2 90 (64 + 4 * n + 2) = nI w ∧ w < t) ∧ (I2 71 n = nI u ∧ J2 90 (64 + 4 * n + 3) = nI u ∧ (i = 1 → inb (nI u) 0 99 = true) ∧ (i = 2 → inb (nI u) 0 4 = true))) → ∃ ok I' J', X_X9_expect g [.ref 1, .int 59] ((zu I2 67 4 (nI (n + 1))), M.2) = some (some (Value.int (b01 ok)), (I', M.2)) ∧ X_X12_readMark g [.ref 72, .int 59] (J2, N.2) = some (some (Value.int (bif ok then 0 else -1)), (J', N.2)) ∧ AFc M.1 I' ∧ AFm N.1 J' ∧ (ok = false → FL I' J') ∧ (ok = true → ∃ c' dy' wt' wm' mu', TKS 2 f L c' m I' J' ∧ AS (n + 1) t dy' wt' wm' mu' I' J') := by
    intro c2 w u I2 J2 tk fc fm e4 e68 e70 e90 ex
    obtain ⟨ok, I', J', p1, p2, p3, p4, p5, p6⟩ := mark_al g (M := ((zu I2 67 4 (nI (n + 1))), M.2)) (N := (J2, N.2)) (s := 59) (by omega) (TKS_Ix tk (by omega)) (by decide)
    dsimp only at p1 p2 p3 p4
    refine ⟨ok, I', J', p1, p2, AFc_t fc (AFc_t (AFc_u (by omega)) (AFc_p p3)), AFm_t fm (AFm_p p4), p5, fun hok => ⟨c2 + 1, (fun k => if k = n then d else dy k), (fun k => if k = n then i else wt k), (fun k => if k = n then w else wm k), (fun k => if k = n then u else mu k), p6 hok, by omega, ?_, ?_⟩⟩
    · rw [p3.1 67 (by omega), zu_eq]
    · intro k hk
      rw [p3.1 68 (by omega), p3.1 69 (by omega), p3.1 70 (by omega), p3.1 71 (by omega), p4.1 90 (by omega), zu_ne (b := 68) (by omega), zu_ne (b := 69) (by omega), zu_ne (b := 70) (by omega), zu_ne (b := 71) (by omega)]
      by_cases e : k = n
      · subst e
        simp only [if_pos]
        refine ⟨⟨?_, ?_, ?_, ?_, hi⟩, ex⟩
        · rw [(e68 k (Or.inr rfl)).1]
          exact h68
        · rw [e90 _ (by omega)]
          exact h90
        · rw [(e68 k (Or.inr rfl)).2]
          exact h69
        · rw [e90 _ (by omega)]
          exact h91
      · simp only [if_neg e]
        have hk' : k < n := by omega
        rw [(e68 k (Or.inl hk')).1, (e68 k (Or.inl hk')).2, (e70 k hk').1, (e70 k hk').2, e90 _ (by omega), e90 _ (by omega), e90 _ (by omega), e90 _ (by omega)]
        exact hs.2.2 k hk'
  have c5 : cEq (nI i) 5 = decide (i = 5) := by rw [show (5 : Int32) = nI 5 from rfl, cEq_nI (by omega) (by omega)]
  rw [c5]
  by_cases h5 : i = 5
  · subst h5
    rw [decide_eq_true rfl, bif_t, bif_t]
    obtain ⟨ok, I', J', y1, y2, y3, y4, y5, y6⟩ := fin c 0 0 M.1 (zu (zu N.1 90 (64 + 4 * n + 2) 0) 90 (64 + 4 * n + 3) 0) (TKS_J90 (TKS_J90 h)) ⟨fun _ _ _ => rfl, fun _ _ _ _ => rfl⟩ (AFm_t (AFm_u (by omega)) (AFm_u (by omega))) hs.2.1 (fun _ _ => ⟨rfl, rfl⟩) (fun _ _ => ⟨rfl, rfl⟩) (fun k hk => by rw [zu_ne2 (by omega), zu_ne2 (by omega)]) (fun q => absurd q (by omega))
    refine ⟨ok, I', J', ?_, ?_, y3, y4, y5, y6⟩
    · rw [y1, zbI_s, b01_and1, bif_t]
    · have a2 : nI (64 + 4 * n) + 2 = nI (64 + 4 * n + 2) := by rw [show (2 : Int32) = nI 2 from rfl, nI_ad2]
      have a3 : nI (64 + 4 * n) + 3 = nI (64 + 4 * n + 3) := by rw [show (3 : Int32) = nI 3 from rfl, nI_ad2]
      rw [e_X12_readDeed_84, a2, a3, zb_nI (n := 64 + 4 * n + 2) (by omega), decide_eq_true (p := 64 + 4 * n + 2 < 128) (by omega), zb_nI (n := 64 + 4 * n + 3) (by omega), decide_eq_true (p := 64 + 4 * n + 3 < 128) (by omega), zx_nI (n := 64 + 4 * n + 2) (by omega), zx_nI (n := 64 + 4 * n + 3) (by omega)]
      simp only [bif_t, zu_eq]
      rw [show cEq (0 : Int32) (-1) = false from by decide, bif_f, show cEq (nI 5) 1 = false from by decide, bif_f, show cEq (nI 5) 2 = false from by decide, bif_f, bif_f, y2, zbI_s]
  · rw [decide_eq_false h5, bif_f, bif_f]
    obtain ⟨ok, I1, J1, q1, q2, q3, q4, q5, q6⟩ := whom_al g h ht hn (by omega) hs.2.1 h69
    cases ok
    · refine ⟨false, I1, J1, ?_, q2, AFc_q q3, AFm_q q4, q5, fun c => absurd c (by decide)⟩
      rw [q1, zbI_s]
      rfl
    · obtain ⟨c', w, u, z1, z2, z3, z4, z5, z6, z7, z8⟩ := q6 rfl
      have e4 : I1 67 4 = nI n := by rw [q3.1 67 (by omega) (by omega) (by omega)]; exact hs.2.1
      obtain ⟨ok, I', J', y1, y2, y3, y4, y5, y6⟩ := fin c' w u I1 J1 z1 (AFc_q q3) (AFm_q q4) e4 (fun k _ => ⟨by rw [q3.1 68 (by omega) (by omega) (by omega)], by rw [q3.1 69 (by omega) (by omega) (by omega)]⟩) (fun k hk => q3.2.1 k (by omega)) (fun k hk => q4.2.1 k (by omega) (by omega)) (fun _ => ⟨⟨z2, z3, z4⟩, z5, z6, z7, z8⟩)
      refine ⟨ok, I', J', ?_, ?_, y3, y4, y5, y6⟩
      · rw [q1, zbI_s, show cEq0 (b01 true) = false from rfl, bif_f]
        dsimp only
        rw [e4, nI_s1, y1, zbI_s, b01_and1, bif_t]
      · rw [q2, bif_t, y2, zbI_s]
