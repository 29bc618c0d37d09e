/-! PURE ROWS: act, days on both sides -/
def hd (x : Nat) (f : Nat → Nat) : Nat → Nat := fun i => if i = 0 then x else f i
theorem hd_0 {x : Nat} {f : Nat → Nat} : hd x f 0 = x := rfl
theorem hd_s {x i : Nat} {f : Nat → Nat} : hd x f (i + 1) = f (i + 1) := rfl
theorem SP_step {n s nx d' l' r' : Nat} {dd ll rf : Nat → Nat} {I J I' J' : zI} (h : SP n dd ll rf s nx I J) (h42 : I' 42 = I 42) (h44 : ∀ a, 44 ≤ a → a ≤ 55 → I' a = I a) (h74 : J' 74 = J 74) (h76 : J' 76 = J 76) (h77 : J' 77 = J 77) (m3 : J' 72 3 = J 72 3) (m6 : J' 72 6 = J 72 6) (m7 : J' 72 7 = J 72 7) (m8 : J' 72 8 = J 72 8) (hm : ∀ i, i < s → ∀ cd ca row, MR (I 28) (I 29) (rf (i + 1)) cd ca row → MR (I' 28) (I' 29) (rf (i + 1)) cd ca row) (hh : 0 < s → dd 1 ≤ d' ∧ ll 1 ≤ l' ∧ rf 1 ≤ r' ∧ r' ≤ rf 1 + 1) : SP n (hd d' dd) (hd l' ll) (hd r' rf) s nx I' J' := by
  obtain ⟨b1, b2, b3, b4, b5, b6, b7⟩ := h
  refine ⟨b1, b2, by rw [h42]; exact b3, by rw [h42]; exact b4, m3.trans b5, ?_, ?_⟩
  · intro i hi
    cases i with
    | zero => exact hh hi
    | succ i => exact b6 (i + 1) hi
  · intro i hi
    have hj : (nx + 5 - i) % 6 < 6 := Nat.mod_lt _ (by omega)
    refine KC_of (b7 i hi) (fun k _ _ => by rw [h44 _ (by omega) (by omega)]) (fun k _ => by rw [h44 _ (by omega) (by omega)]) (fun k _ => by rw [h74]) m6 m7 m8 h76 h77 (fun cd ca hmr => hm i hi cd ca _ hmr)
theorem step_pass (g : zg) {n s nx m mr ma : Nat} {dd ll rf : Nat → Nat} {wd fr wh en o k : Nat → Nat} {la : Nat → Nat} {mv : Nat → Int32} {dy wt wm mu : Nat → Nat} {M N : zM} (hc : CU n (dd 0) (ll 0) (rf 0) M.1 N.1) (hs : SP n dd ll rf s nx M.1 N.1) (h01 : 0 < s → rf 0 = rf 1) (hd9 : dd 0 + 1 ≤ 9999) (hl : LW m wd fr wh en o k M.1 N.1) (ho : RO mr la mv M.1 N.1) (ha : AG ma n dy wt wm mu M.1 N.1) : ∃ (fo : Option Nat) (I' J' : zI) (l' r' : Nat), (∀ u, fo = some u → u < n) ∧ X_X10_pass g [.ref 6, .ref 7] M = some (some (.int (bI fo)), (I', M.2)) ∧ X_X12_goesBy g [.ref 72] N = some (some (.int (b01 fo.isSome)), (J', N.2)) ∧ WF 7 8 M.1 I' ∧ WG N.1 J' ∧ CU n (dd 0 + 1) l' r' I' J' ∧ SP n (hd (dd 0 + 1) dd) (hd l' ll) (hd r' rf) s nx I' J' := by
  obtain ⟨p1, ⟨p2, p3⟩, p4, p5, p6, cd, ca, p7⟩ := hc
  have h7 : CO 7 8 := Or.inl ⟨rfl, rfl⟩
  obtain ⟨fo, I', J', q1, q2, q3, q4, q5, q6, q7, q8⟩ := pass_al g h7 p1 hl ho ha (by omega) ⟨min (rf 0) 90, by omega, p7.1⟩ (fun _ => ⟨rf 0, by omega, p4⟩)
  obtain ⟨_, _, q9⟩ := q8
  obtain ⟨r1, r2, r', cd', ca', r3, r4, r5, r6⟩ := q9 rfl (rf 0) cd ca (by omega) p4 p7
  obtain ⟨l', l1, l2, l3⟩ := q6.2.2 (ll 0) p2 p3
  refine ⟨fo, I', J', l', r', q1, q2, q3, q5, q6, ⟨q4, ⟨l2, l3⟩, r5, by omega, hd9, cd', ca', r6⟩, ?_⟩
  have hch := rf_ch (rf := fun i => rf (i + 1)) (s := s - 1) (fun i hi => ⟨(hs.2.2.2.2.2.1 (i + 1) (by omega)).2.2.1, (hs.2.2.2.2.2.1 (i + 1) (by omega)).2.2.2⟩)
  refine SP_step hs (q5.1 42 (by omega) (by omega) (by omega) (by omega) (by omega) (by omega) (by omega)) (fun a u1 u2 => q5.1 a (by omega) (by omega) (by omega) (by omega) (by omega) (by omega) (by omega)) (q6.1 74 (by omega) (by omega) (by omega) (by omega) (by omega)) (q6.1 76 (by omega) (by omega) (by omega) (by omega) (by omega)) (q6.1 77 (by omega) (by omega) (by omega) (by omega) (by omega)) (q6.2.1 3 (by omega) (by omega)) (q6.2.1 6 (by omega) (by omega)) (q6.2.1 7 (by omega) (by omega)) (q6.2.1 8 (by omega) (by omega)) ?_ ?_
  · intro i hi cd2 ca2 row hmr
    have h1 := hch i (by omega)
    rw [Nat.zero_add] at h1
    have h2 := h01 (by omega)
    have h3 := hs.1
    exact MR_keep hmr r1 r2 (by omega) (by omega)
  · intro h0
    have h1 := h01 h0
    have h2 := hs.2.2.2.2.2.1 0 h0
    rw [Nat.zero_add] at h2
    omega
theorem step_deed (g : zg) {n s nx w t : Nat} {dd ll rf : Nat → Nat} {v : Int32} {M N : zM} (hc : CU n (dd 0) (ll 0) (rf 0) M.1 N.1) (hs : SP n dd ll rf s nx M.1 N.1) (hw : w ≤ 4) (ht : t < n) (h2 : w = 2 → inb v 0 4 = true) : ∃ (I' J' : zI) (l' : Nat), X_X10_carryOut g [.ref 6, .ref 7, .int (nI w), .int (nI t), .int v] M = some (none, (I', M.2)) ∧ X_X12_acts g [.ref 72, .int (nI w), .int (nI t), .int v] N = some (none, (J', N.2)) ∧ WF 7 8 M.1 I' ∧ WG N.1 J' ∧ CU n (dd 0) l' (rf 0) I' J' ∧ SP n (hd (dd 0) dd) (hd l' ll) (hd (rf 0) rf) s nx I' J' := by
  obtain ⟨p1, ⟨p2, p3⟩, p4, p5, p6, cd, ca, p7⟩ := hc
  have h7 : CO 7 8 := Or.inl ⟨rfl, rfl⟩
  obtain ⟨I', J', q1, q2, q3⟩ := deed_al g h7 p1 hw ht h2
  obtain ⟨l', l1, l2, l3⟩ := q3.2.2.2.2.2 (ll 0) p2 p3
  have e28 := q3.2.1.1 28 (by omega) (by omega) (by omega) (by omega) (by omega)
  have e29 := q3.2.1.1 29 (by omega) (by omega) (by omega) (by omega) (by omega)
  have q5 := WF_P q3.2.1
  have q6 := WG_Q q3.2.2
  refine ⟨I', J', l', q1, q2, q5, q6, ⟨q3.1, ⟨l2, l3⟩, (q3.2.1.2 12 (by omega)).trans p4, p5, p6, cd, ca, ?_⟩, ?_⟩
  · rw [e28, e29]
    refine ⟨(q3.2.2.2.2.1 7 (by omega)).trans p7.1, fun dd hdd => ?_⟩
    rw [q3.2.2.2.2.1 (58 + dd) (by omega)]
    exact p7.2 dd hdd
  · refine SP_step hs (q5.1 42 (by omega) (by omega) (by omega) (by omega) (by omega) (by omega) (by omega)) (fun a u1 u2 => q5.1 a (by omega) (by omega) (by omega) (by omega) (by omega) (by omega) (by omega)) (q6.1 74 (by omega) (by omega) (by omega) (by omega) (by omega)) (q6.1 76 (by omega) (by omega) (by omega) (by omega) (by omega)) (q6.1 77 (by omega) (by omega) (by omega) (by omega) (by omega)) (q6.2.1 3 (by omega) (by omega)) (q6.2.1 6 (by omega) (by omega)) (q6.2.1 7 (by omega) (by omega)) (q6.2.1 8 (by omega) (by omega)) ?_ ?_
    · intro i hi cd2 ca2 row hmr
      rw [e28, e29]
      exact hmr
    · intro h0
      have h2 := hs.2.2.2.2.2.1 0 h0
      rw [Nat.zero_add] at h2
      omega
/-- what act and days leave as it was -/
def VF (I I' : zI) : Prop := ∀ a, a ≠ 7 → a ≠ 8 → a ≠ 15 → a ≠ 16 → a ≠ 26 → a ≠ 28 → a ≠ 29 → a ≠ 42 → (a < 44 ∨ 55 < a) → I' a = I a
def VG (J J' : zI) : Prop := (∀ a, a ≠ 72 → a ≠ 73 → a ≠ 74 → a ≠ 78 → a ≠ 91 → a ≠ 92 → J' a = J a) ∧ ∀ k, k ≠ 0 → k ≠ 3 → k ≠ 41 → k ≠ 42 → J' 72 k = J 72 k
theorem VF_tr {I I1 I2 : zI} (h1 : VF I I1) (h2 : VF I1 I2) : VF I I2 := fun a b1 b2 b3 b4 b5 b6 b7 b8 b9 => (h2 a b1 b2 b3 b4 b5 b6 b7 b8 b9).trans (h1 a b1 b2 b3 b4 b5 b6 b7 b8 b9)
theorem VG_tr {I I1 I2 : zI} (h1 : VG I I1) (h2 : VG I1 I2) : VG I I2 := ⟨fun a b1 b2 b3 b4 b5 b6 => (h2.1 a b1 b2 b3 b4 b5 b6).trans (h1.1 a b1 b2 b3 b4 b5 b6), fun k b1 b2 b3 b4 => (h2.2 k b1 b2 b3 b4).trans (h1.2 k b1 b2 b3 b4)⟩
theorem VF_K {I I' : zI} (h : KF I I') : VF I I' := fun a _ _ _ _ _ _ _ b8 b9 => h a b8 b9
theorem VG_K {J J' : zI} (h : KG J J') : VG J J' := ⟨fun a b1 _ b3 _ _ _ => h.1 a b1 b3, fun k _ b2 _ _ => h.2 k b2⟩
theorem VF_W {I I' : zI} (h : WF 7 8 I I') : VF I I' := fun a b1 b2 b3 b4 b5 b6 b7 _ _ => h.1 a b1 b2 b3 b4 b5 b6 b7
theorem VG_W {J J' : zI} (h : WG J J') : VG J J' := ⟨fun a b1 b2 _ b4 b5 b6 => h.1 a b1 b2 b4 b5 b6, fun k _ _ b3 b4 => h.2.1 k b3 b4⟩
theorem VF_rfl {I : zI} : VF I I := fun _ _ _ _ _ _ _ _ _ _ => rfl
theorem VG_rfl {J : zI} : VG J J := ⟨fun _ _ _ _ _ _ _ => rfl, fun _ _ _ _ _ => rfl⟩
theorem LW_v {m : Nat} {wd fr wh en o k : Nat → Nat} {I J I' J' : zI} (h : LW m wd fr wh en o k I J) (h1 : VF I I') (h2 : VG J J') : LW m wd fr wh en o k I' J' := by
  have p : ∀ a, 9 ≤ a → a ≤ 14 → I' a = I a := fun a u1 u2 => h1 a (by omega) (by omega) (by omega) (by omega) (by omega) (by omega) (by omega) (by omega) (by omega)
  have q : ∀ a, 81 ≤ a → a ≤ 87 → J' a = J a := fun a u1 u2 => h2.1 a (by omega) (by omega) (by omega) (by omega) (by omega) (by omega)
  exact LW_of h (by rw [p 9 (by omega) (by omega)]) (p 10 (by omega) (by omega)) (p 11 (by omega) (by omega)) (p 12 (by omega) (by omega)) (p 13 (by omega) (by omega)) (p 14 (by omega) (by omega)) (by rw [q 81 (by omega) (by omega)]) (q 82 (by omega) (by omega)) (q 83 (by omega) (by omega)) (q 84 (by omega) (by omega)) (q 85 (by omega) (by omega)) (q 86 (by omega) (by omega)) (q 87 (by omega) (by omega))
theorem RO_v {m : Nat} {la : Nat → Nat} {mv : Nat → Int32} {I J I' J' : zI} (h : RO m la mv I J) (h1 : VF I I') (h2 : VG J J') : RO m la mv I' J' := by
  have p : ∀ a, 17 ≤ a → a ≤ 19 → I' a = I a := fun a u1 u2 => h1 a (by omega) (by omega) (by omega) (by omega) (by omega) (by omega) (by omega) (by omega) (by omega)
  exact RO_of h (p 17 (by omega) (by omega)) (p 18 (by omega) (by omega)) (p 19 (by omega) (by omega)) (h2.2 35 (by omega) (by omega) (by omega) (by omega)) (h2.1 89 (by omega) (by omega) (by omega) (by omega) (by omega) (by omega))
theorem AG_v {m n : Nat} {dy wt wm mu : Nat → Nat} {I J I' J' : zI} (h : AG m n dy wt wm mu I J) (h1 : VF I I') (h2 : VG J J') : AG m n dy wt wm mu I' J' := by
  have p : ∀ a, 20 ≤ a → a ≤ 24 → I' a = I a := fun a u1 u2 => h1 a (by omega) (by omega) (by omega) (by omega) (by omega) (by omega) (by omega) (by omega) (by omega)
  exact AG_of h (p 20 (by omega) (by omega)) (p 21 (by omega) (by omega)) (p 22 (by omega) (by omega)) (p 23 (by omega) (by omega)) (p 24 (by omega) (by omega)) (h2.2 37 (by omega) (by omega) (by omega) (by omega)) (h2.1 90 (by omega) (by omega) (by omega) (by omega) (by omega) (by omega))
theorem days_loop (g : zg) {n m mr ma D : Nat} {wd fr wh en o k : Nat → Nat} {la : Nat → Nat} {mv : Nat → Int32} {dy wt wm mu : Nat → Nat} (hD : D ≤ 60) (f : Nat) : ∀ (i sm s nx : Nat) (dd ll rf : Nat → Nat) (M N : zM), i + f = D → CU n (dd 0) (ll 0) (rf 0) M.1 N.1 → SP n dd ll rf s nx M.1 N.1 → dd 0 + f ≤ 9999 → LW m wd fr wh en o k M.1 N.1 → RO mr la mv M.1 N.1 → AG ma n dy wt wm mu M.1 N.1 → ∃ (v : Int32) (I' J' : zI) (s' nx' : Nat) (dd' ll' rf' : Nat → Nat), zX (t_X11_days g) 34 [some (.ref 0), some (.int (nI D)), some (.int (nI sm)), some (.int (nI i))] [] M = some (some (.int v), (I', M.2)) ∧ zX (t_X12_days g) 36 [some (.ref 72), some (.int (nI D)), some (.int (nI sm)), some (.int (nI i))] [] N = some (some (.int v), (J', N.2)) ∧ VF M.1 I' ∧ VG N.1 J' ∧ CU n (dd' 0) (ll' 0) (rf' 0) I' J' ∧ SP n dd' ll' rf' s' nx' I' J' := by
  induction f with
  | zero =>
    intro i sm s nx dd ll rf M N hi hc hs hd9 hl ho ha
    refine ⟨nI sm, M.1, N.1, s, nx, dd, ll, rf, ?_, ?_, VF_rfl, VG_rfl, hc, hs⟩
    · rw [e_X11_days_34, cLtF (by omega) (by omega), bif_f]
    · rw [e_X12_days_36, cLtF (by omega) (by omega), bif_f]
  | succ f ih =>
    intro i sm s nx dd ll rf M N hi hc hs hd9 hl ho ha
    obtain ⟨I1, J1, q1, q2, q3, q4, q5, q6⟩ := keep_al g hc hs
    have v1 := VF_K q3
    have v2 := VG_K q4
    obtain ⟨fo, I2, J2, l', r', p0, p1, p2, p3, p4, p5, p6⟩ := step_pass g (M := (I1, M.2)) (N := (J1, N.2)) (dd := fun i => dd (i - 1)) (ll := fun i => ll (i - 1)) (rf := fun i => rf (i - 1)) q5 q6 (fun _ => rfl) (by show dd 0 + 1 ≤ 9999; omega) (LW_v hl v1 v2) (RO_v ho v1 v2) (AG_v ha v1 v2)
    have v3 := VF_tr v1 (VF_W p3)
    have v4 := VG_tr v2 (VG_W p4)
    rw [e_X11_days_34, cLtT (by omega) (by omega), bif_t, q1, zbV_s, p1, zbI_s, e_X12_days_36, cLtT (by omega) (by omega), bif_t, q2, zbV_s, p2, zbI_s, nI_s1, nI_s1]
    have go : ∀ sm', ∃ (v : Int32) (I' J' : zI) (s' nx' : Nat) (dd' ll' rf' : Nat → Nat), zX (t_X11_days g) 34 [some (.ref 0), some (.int (nI D)), some (.int (nI sm')), some (.int (nI (i + 1)))] [] (I2, M.2) = some (some (.int v), (I', M.2)) ∧ zX (t_X12_days g) 36 [some (.ref 72), some (.int (nI D)), some (.int (nI sm')), some (.int (nI (i + 1)))] [] (J2, N.2) = some (some (.int v), (J', N.2)) ∧ VF M.1 I' ∧ VG N.1 J' ∧ CU n (dd' 0) (ll' 0) (rf' 0) I' J' ∧ SP n dd' ll' rf' s' nx' I' J' := by
      intro sm'
      obtain ⟨v, I', J', s', nx', dd', ll', rf', u1, u2, u3, u4, u5, u6⟩ := ih (i + 1) sm' _ _ (hd (dd 0 + 1) (fun i => dd (i - 1))) (hd l' (fun i => ll (i - 1))) (hd r' (fun i => rf (i - 1))) (I2, M.2) (J2, N.2) (by omega) p5 p6 (by rw [hd_0]; omega) (LW_v hl v3 v4) (RO_v ho v3 v4) (AG_v ha v3 v4)
      exact ⟨v, I', J', s', nx', dd', ll', rf', u1, u2, VF_tr v3 u3, VG_tr v4 u4, u5, u6⟩
    cases fo with
    | none =>
      rw [show cEq (bI none) (-1) = true from by decide, bif_t, show nI sm + b01 (Option.isSome (none : Option Nat)) = nI sm from Int32.add_zero _]
      exact go sm
    | some u =>
      have hu := p0 u rfl
      have hn10 := hc.1.1.1
      rw [cEq_n (bI_ne (by omega)), bif_f, show nI sm + b01 (Option.isSome (some u)) = nI (sm + 1) from nI_s1 sm]
      exact go (sm + 1)

theorem CU_t {n d l rr : Nat} {I J : zI} (h : CU n d l rr I J) : CU n d l rr I (zu J 72 0 0) := CU_of h rfl rfl rfl rfl rfl (zu_ne2 (by omega)) (zu_ne2 (by omega)) (zu_ne2 (by omega)) (zu_ne2 (by omega)) (zu_ne (by omega)) (zu_ne (by omega)) (zu_ne (by omega)) (zu_ne (by omega))
theorem VG_t {J : zI} : VG J (zu J 72 0 0) := ⟨fun a b1 _ _ _ _ _ => zu_ne b1, fun k b1 _ _ _ => zu_ne2 b1⟩
theorem SP_t {n s nx : Nat} {dd ll rf : Nat → Nat} {I J : zI} (h : SP n dd ll rf s nx I J) : SP n dd ll rf s nx I (zu J 72 0 0) := by
  obtain ⟨b1, b2, b3, b4, b5, b6, b7⟩ := h
  refine ⟨b1, b2, b3, b4, (zu_ne2 (by omega)).trans b5, b6, fun i hi => ?_⟩
  exact KC_of (b7 i hi) (fun _ _ _ => rfl) (fun _ _ => rfl) (fun k _ => by rw [zu_ne (by omega)]) (zu_ne2 (by omega)) (zu_ne2 (by omega)) (zu_ne2 (by omega)) (zu_ne (by omega)) (zu_ne (by omega)) (fun _ _ h => h)
theorem days_al (g : zg) (a : Int32) {n m mr ma s nx : Nat} {dd ll rf : Nat → Nat} {wd fr wh en o k : Nat → Nat} {la : Nat → Nat} {mv : Nat → Int32} {dy wt wm mu : Nat → Nat} {M N : zM} (hc : CU n (dd 0) (ll 0) (rf 0) M.1 N.1) (hs : SP n dd ll rf s nx M.1 N.1) (hl : LW m wd fr wh en o k M.1 N.1) (ho : RO mr la mv M.1 N.1) (ha : AG ma n dy wt wm mu M.1 N.1) : ∃ (v : Int32) (I' J' : zI) (s' nx' : Nat) (dd' ll' rf' : Nat → Nat), X_X11_days g [.ref 0, .int a] M = some (some (.int v), (I', M.2)) ∧ X_X12_days g [.ref 72, .int a] N = some (some (.int v), (J', N.2)) ∧ VF M.1 I' ∧ VG N.1 J' ∧ CU n (dd' 0) (ll' 0) (rf' 0) I' J' ∧ SP n dd' ll' rf' s' nx' I' J' := by
  obtain ⟨e1, e2⟩ := PR_d hc.1
  have d9 : dd 0 ≤ 9999 := hc.2.2.2.2.1
  rw [x_X11_days_0, x_X12_days_0, within_s, isIn_s, zbI_s, zbI_s, cEq0_b01]
  cases hi : inb a 1 60
  · exact ⟨-1, M.1, _, s, nx, dd, ll, rf, rfl, rfl, VF_rfl, VG_t, CU_t hc, SP_t hs⟩
  · obtain ⟨D, h1, h2, rfl⟩ := inb1_ex (b := 60) (by omega) rfl hi
    rw [Bool.not_true, bif_f, bif_f]
    dsimp only
    rw [zu_ne (show 73 ≠ 72 by omega), e1, e2, nI_ad2, show cGt (nI (dd 0 + D)) 9999 = decide (9999 < dd 0 + D) from cGt_nI (a := dd 0 + D) (b := 9999) (by omega) (by omega)]
    by_cases h9 : 9999 < dd 0 + D
    · rw [decide_eq_true h9, bif_t, bif_t]
      exact ⟨-1, M.1, _, s, nx, dd, ll, rf, rfl, rfl, VF_rfl, VG_t, CU_t hc, SP_t hs⟩
    · rw [decide_eq_false h9, bif_f, bif_f]
      obtain ⟨v, I', J', s', nx', dd', ll', rf', q1, q2, q3, q4, q5, q6⟩ := days_loop g (D := D) (m := m) (mr := mr) (ma := ma) (wd := wd) (fr := fr) (wh := wh) (en := en) (o := o) (k := k) (la := la) (mv := mv) (dy := dy) (wt := wt) (wm := wm) (mu := mu) h2 D 0 0 s nx dd ll rf M ((zu N.1 72 0 0), N.2) (by omega) (CU_t hc) (SP_t hs) (by omega) (LW_v hl VF_rfl VG_t) (RO_v ho VF_rfl VG_t) (AG_v ha VF_rfl VG_t)
      exact ⟨v, I', J', s', nx', dd', ll', rf', q1, q2, q3, VG_tr VG_t q4, q5, q6⟩
theorem not_in4 {a : Int32} (h : inb a 0 4 = false) : cEq a 0 = false ∧ cEq a 1 = false ∧ cEq a 2 = false ∧ cEq a 3 = false ∧ cEq a 4 = false := by
  refine ⟨?_, ?_, ?_, ?_, ?_⟩ <;> (apply cEq_n; rintro rfl; exact absurd h (by decide))
theorem act_al (g : zg) (a1 a2 a3 : Int32) {n s nx : Nat} {dd ll rf : Nat → Nat} {M N : zM} (hc : CU n (dd 0) (ll 0) (rf 0) M.1 N.1) (hs : SP n dd ll rf s nx M.1 N.1) : ∃ (v : Int32) (I' J' : zI) (s' nx' : Nat) (dd' ll' rf' : Nat → Nat), X_X11_act g [.ref 0, .int a1, .int a2, .int a3] M = some (some (.int v), (I', M.2)) ∧ X_X12_act g [.ref 72, .int a1, .int a2, .int a3] N = some (some (.int v), (J', N.2)) ∧ VF M.1 I' ∧ VG N.1 J' ∧ CU n (dd' 0) (ll' 0) (rf' 0) I' J' ∧ SP n dd' ll' rf' s' nx' I' J' := by
  have hcT := CU_t hc
  have hsT := SP_t hs
  obtain ⟨hn, hc2, hm⟩ := PR_n hc.1
  have h7 : CO 7 8 := Or.inl ⟨rfl, rfl⟩
  have no : ∀ (X Y : Option (Option Value × zM)), X = some (some (.int 0), M) → Y = some (some (.int 0), ((zu N.1 72 0 0), N.2)) → ∃ (v : Int32) (I' J' : zI) (s' nx' : Nat) (dd' ll' rf' : Nat → Nat), X = some (some (.int v), (I', M.2)) ∧ Y = some (some (.int v), (J', N.2)) ∧ VF M.1 I' ∧ VG N.1 J' ∧ CU n (dd' 0) (ll' 0) (rf' 0) I' J' ∧ SP n dd' ll' rf' s' nx' I' J' := fun X Y e1 e2 => ⟨0, M.1, _, s, nx, dd, ll, rf, e1, e2, VF_rfl, VG_t, hcT, hsT⟩
  have hT : X_X12_isTeller g [.ref 72, .int a2] ((zu N.1 72 0 0), N.2) = some (some (.int (b01 (hsB (nI n) a2))), ((zu N.1 72 0 0), N.2)) := by
    rw [isT_s]
    dsimp only
    rw [zu_ne2 (by omega), hm]
  rw [x_X11_act_0, x_X12_act_0, isIn_s, zbI_s, cEq0_b01]
  cases h1 : inb a1 0 4
  · obtain ⟨z0, z1, z2, z3, z4⟩ := not_in4 h1
    refine no _ _ ?_ rfl
    rw [x_X3_allows_0, has7_s, zbI_s, hc2, cEq0_b01, z0, z1, z2, z3, z4]
    cases hsB (nI n) a2 <;> rfl
  · rw [Bool.not_true, bif_f, hT, zbI_s, cEq0_b01]
    cases h2 : hsB (nI n) a2
    · refine no _ _ ?_ rfl
      rw [x_X3_allows_0, has7_s, zbI_s, hc2, cEq0_b01, h2]
      rfl
    · obtain ⟨w, hw, rfl⟩ := inb_ex (b := 4) (by omega) h1
      obtain ⟨t, ht, rfl⟩ := hsB_ex hn h2
      rw [Bool.not_true, bif_f]
      -- the value is within its bounds, or it is refused by both
      by_cases hv1 : w = 1 ∧ inb a3 0 99 = false
      · obtain ⟨rfl, hv⟩ := hv1
        refine no _ _ ?_ ?_
        · rw [x_X3_allows_0, has7_s, zbI_s, hc2, cEq0_b01, h2]
          show zbI (zbI (X_X11_within g [.int a3, .int 0, .int 99] M) _) _ = _
          rw [within_s, hv]
          rfl
        · rw [x_X12_canAct_0]
          show zbI (X_X12_isIn g [.ref 72, .int a3, .int 0, .int 99] (((zu N.1 72 0 0), N.2) : zM)) _ = _
          rw [isIn_s, hv]
          rfl
      · by_cases hv2 : w = 2 ∧ inb a3 0 4 = false
        · obtain ⟨rfl, hv⟩ := hv2
          refine no _ _ ?_ ?_
          · rw [x_X3_allows_0, has7_s, zbI_s, hc2, cEq0_b01, h2]
            show zbI (zbI (X_X11_within g [.int a3, .int 0, .int 4] M) _) _ = _
            rw [within_s, hv]
            rfl
          · rw [x_X12_canAct_0]
            show zX (t_X12_act g) 50 [some (.ref 72), some (.int (nI 2)), some (.int (nI t)), some (.int a3)] [] (((zu N.1 72 0 0), N.2) : zM) = _
            rw [e_X12_act_50]
            show zbI (X_X12_isIn g [.ref 72, .int a3, .int 0, .int 4] (((zu N.1 72 0 0), N.2) : zM)) _ = _
            rw [isIn_s, hv]
            rfl
        · have c1 : w = 1 → inb a3 0 99 = true := by
            intro e
            cases hh : inb a3 0 99
            · exact absurd ⟨e, hh⟩ hv1
            · rfl
          have c2 : w = 2 → inb a3 0 4 = true := by
            intro e
            cases hh : inb a3 0 4
            · exact absurd ⟨e, hh⟩ hv2
            · rfl
          obtain ⟨ok, o1, o2⟩ := allow_al g h7 (w := w) (t := t) (v := a3) (N := ((zu N.1 72 0 0), N.2)) hcT.1 hw ht c1 c2
          rw [o1, o2, zbI_s, zbI_s, cEq0_b01]
          cases ok
          · exact no _ _ rfl rfl
          · obtain ⟨I1, J1, q1, q2, q3, q4, q5, q6⟩ := keep_al g (N := ((zu N.1 72 0 0), N.2)) hcT hsT
            obtain ⟨I2, J2, l', p1, p2, p3, p4, p5, p6⟩ := step_deed g (M := (I1, M.2)) (N := (J1, N.2)) (v := a3) (dd := fun i => dd (i - 1)) (ll := fun i => ll (i - 1)) (rf := fun i => rf (i - 1)) q5 q6 hw ht c2
            refine ⟨1, I2, J2, _, _, _, _, _, ?_, ?_, VF_tr (VF_K q3) (VF_W p3), VG_tr VG_t (VG_tr (VG_K q4) (VG_W p4)), p5, p6⟩
            · rw [Bool.not_true, bif_f, q1, zbV_s, p1, zbV_s]
            · have e50 : zX (t_X12_act g) 50 [some (.ref 72), some (.int (nI w)), some (.int (nI t)), some (.int a3)] [] (((zu N.1 72 0 0), N.2) : zM) = some (some (.int 1), (J2, N.2)) := by
                rw [e_X12_act_50]
                cases e2 : cEq (nI w) 2
                · rw [bif_f, q2, zbV_s, p2, zbV_s]
                · have ew : w = 2 := by
                    rw [cEq_lit (m := w) (k := 2) (y := 2) (by omega) (by omega) rfl, decide_eq_true_eq] at e2
                    exact e2
                  rw [bif_t, isIn_s, zbI_s, c2 ew, cEq0_b01, Bool.not_true, bif_f, q2, zbV_s, p2, zbV_s]
              rw [Bool.not_true, bif_f]
              cases e1 : cEq (nI w) 1
              · rw [bif_f]
                exact e50
              · have ew : w = 1 := by
                  rw [cEq_lit (m := w) (k := 1) (y := 1) (by omega) (by omega) rfl, decide_eq_true_eq] at e1
                  exact e1
                rw [bif_t, isIn_s, zbI_s, c1 ew, cEq0_b01, Bool.not_true, bif_f]
                exact e50
