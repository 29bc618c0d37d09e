/-! PURE ROWS: a court, the real one or one in thought -/
def CO (c r : Nat) : Prop := (c = 7 ∧ r = 8) ∨ (c = 40 ∧ r = 41)
theorem hasX (g : zg) {c r : Nat} (h : CO c r) (x : Int32) (M : zM) : X_X3_has g [.ref c, .int x] M = some (some (.int (b01 (hsB (M.1 c 2) x))), M) := by
  rcases h with ⟨rfl, rfl⟩ | ⟨rfl, rfl⟩
  · exact has7_s g x M
  · exact has40_s g x M
theorem kindX (g : zg) {c r : Nat} (h : CO c r) (M : zM) : X_X3_kind g [.ref c] M = some (some (.int (M.1 c 4 / 20)), M) := by
  rcases h with ⟨rfl, rfl⟩ | ⟨rfl, rfl⟩
  · exact x_X3_kind_0 g M
  · exact x_X3_kind_0_1 g M
theorem getX (g : zg) {c r : Nat} (h : CO c r) {n t k : Nat} {x kk : Int32} {M : zM} (hn : n ≤ 10) (hc : M.1 c 2 = nI n) (ht : t < n) (hk : k < 7) (hx : x = nI t) (hkk : kk = nI k) : X_X3_get g [.ref c, .int x, .int kk] M = some (some (.int (M.1 r (7 * t + k))), M) := by
  have hh := hasX g h x M
  subst hx; subst hkk
  have h6 : inb (nI k) 0 6 = true := (inb_nI (k := k) (a := 0) (b := 6) (by omega) (by omega) (by omega)).trans (by simp; omega)
  rw [hc, hsB_nI hn ht] at hh
  rcases h with ⟨rfl, rfl⟩ | ⟨rfl, rfl⟩
  · rw [x_X3_get_0, hh, zbI_s, cEq0_b01, within_s, zbI_s, h6, cEq0_b01, ix7, zbT (by omega) (by omega), zx_nI (by omega)]
    rfl
  · rw [x_X3_get_0_1, hh, zbI_s, cEq0_b01, within_s, zbI_s, h6, cEq0_b01, ix7, zbT (by omega) (by omega), zx_nI (by omega)]
    rfl
theorem getXf (g : zg) {c r : Nat} (h : CO c r) {n t : Nat} {x kk : Int32} {M : zM} (hn : n ≤ 10) (hc : M.1 c 2 = nI n) (ht : n ≤ t) (ht' : t < 10000) (hx : x = nI t) : X_X3_get g [.ref c, .int x, .int kk] M = some (some (.int (-1)), M) := by
  have hh := hasX g h x M
  subst hx
  have hf : hsB (nI n) (nI t) = false := by
    unfold hsB
    rw [cLtF ht (by omega), Bool.and_false]
  rw [hc, hf] at hh
  rcases h with ⟨rfl, rfl⟩ | ⟨rfl, rfl⟩
  · rw [x_X3_get_0, hh, zbI_s, cEq0_b01]; rfl
  · rw [x_X3_get_0_1, hh, zbI_s, cEq0_b01]; rfl
theorem putX (g : zg) {c r : Nat} (h : CO c r) {n t k : Nat} {x kk v : Int32} {M : zM} (hn : n ≤ 10) (hc : M.1 c 2 = nI n) (ht : t < n) (hk : k < 7) (hx : x = nI t) (hkk : kk = nI k) : X_X3_put g [.ref c, .int x, .int kk, .int v] M = some (none, ((zu M.1 r (7 * t + k) v), M.2)) := by
  have hh := hasX g h x M
  subst hx; subst hkk
  have h6 : inb (nI k) 0 6 = true := (inb_nI (k := k) (a := 0) (b := 6) (by omega) (by omega) (by omega)).trans (by simp; omega)
  rw [hc, hsB_nI hn ht] at hh
  rcases h with ⟨rfl, rfl⟩ | ⟨rfl, rfl⟩
  · rw [x_X3_put_0, hh, zbI_s, cEq0_b01, within_s, zbI_s, h6, cEq0_b01, ix7, zbT (by omega) (by omega), zx_nI (by omega)]
    rfl
  · rw [x_X3_put_0_1, hh, zbI_s, cEq0_b01, within_s, zbI_s, h6, cEq0_b01, ix7, zbT (by omega) (by omega), zx_nI (by omega)]
    rfl
theorem servX (g : zg) {c r : Nat} (h : CO c r) {n t : Nat} {M : zM} (hn : n ≤ 10) (hc : M.1 c 2 = nI n) (ht : t < n) : X_X3_serving g [.ref c, .int (nI t)] M = some (some (.int (b01 (cEq0 (M.1 r (7 * t + 5))))), M) := by
  have hh := hasX g h (nI t) M
  rw [hc, hsB_nI hn ht] at hh
  have hg := getX g h (k := 5) (kk := 5) (x := nI t) hn hc ht (by omega) rfl rfl
  rcases h with ⟨rfl, rfl⟩ | ⟨rfl, rfl⟩
  · rw [x_X3_serving_0, hh, zbI_s, cEq0_b01, hg, zbI_s]
    cases cEq0 (M.1 8 (7 * t + 5)) <;> rfl
  · rw [x_X3_serving_0_1, hh, zbI_s, cEq0_b01, hg, zbI_s]
    cases cEq0 (M.1 41 (7 * t + 5)) <;> rfl
/-- what the law may ask of a teller -/
def fc (I : zI) (c r t j : Nat) : Int32 := if j = 0 then I r (7 * t + 0) else if j = 1 then I r (7 * t + 1) else if j = 2 then I r (7 * t + 2) else if j = 3 then I c 4 else if j = 4 then I c 4 / 20 else if j = 5 then I r (7 * t + 4) else if j = 6 then I c 10 else b01 (cEq (I c 7) (nI t))
def fm (J : zI) (t j : Nat) : Int32 := if j = 0 then J 76 t else if j = 1 then J 77 t else if j = 2 then J 73 (8 + t) else if j = 3 then J 73 3 + 50 else if j = 4 then (J 73 3 + 50) / 20 else if j = 5 then J 73 (28 + t) else if j = 6 then J 73 0 else b01 (cEq (J 73 4 - 1) (nI t))
theorem up8 {f : Nat → Int32} {a0 a1 a2 a3 a4 a5 a6 a7 : Int32} (j : Nat) (hj : j < 8) : upd1 (upd1 (upd1 (upd1 (upd1 (upd1 (upd1 (upd1 f 0 a0) 1 a1) 2 a2) 3 a3) 4 a4) 5 a5) 6 a6) 7 a7 j = if j = 0 then a0 else if j = 1 then a1 else if j = 2 then a2 else if j = 3 then a3 else if j = 4 then a4 else if j = 5 then a5 else if j = 6 then a6 else a7 := by
  have h : j = 0 ∨ j = 1 ∨ j = 2 ∨ j = 3 ∨ j = 4 ∨ j = 5 ∨ j = 6 ∨ j = 7 := by omega
  rcases h with rfl | rfl | rfl | rfl | rfl | rfl | rfl | rfl <;> rfl
theorem learn_s (g : zg) {c r : Nat} (h : CO c r) {n t : Nat} {M : zM} (hn : n ≤ 10) (hc : M.1 c 2 = nI n) (ht : t < n) : ∃ f, X_X4_learn g [.ref 9, .ref c, .int (nI t)] M = some (none, ((zr M.1 16 f), M.2)) ∧ ∀ j, j < 8 → f j = fc M.1 c r t j := by
  have hc16 : c ≠ 16 := by rcases h with ⟨rfl, rfl⟩ | ⟨rfl, rfl⟩ <;> omega
  have hr16 : r ≠ 16 := by rcases h with ⟨rfl, rfl⟩ | ⟨rfl, rfl⟩ <;> omega
  have key : X_X4_learn g [.ref 9, .ref c, .int (nI t)] M = (zbI (X_X3_get g [.ref c, .int (nI t), .int 0] M) (fun x1 M1 => (zbI (X_X3_get g [.ref c, .int (nI t), .int 1] ((zu M1.1 16 0 x1), M1.2)) (fun x2 M2 => (zbI (X_X3_get g [.ref c, .int (nI t), .int 2] ((zu M2.1 16 1 x2), M2.2)) (fun x3 M3 => (zbI (X_X3_kind g [.ref c] ((zu (zu M3.1 16 2 x3) 16 3 (M3.1 c 4)), M3.2)) (fun x4 M4 => (zbI (X_X3_get g [.ref c, .int (nI t), .int 4] ((zu M4.1 16 4 x4), M4.2)) (fun x5 M5 => (bif cEq (M5.1 c 7) (nI t) then some (none, ((zu (zu (zu M5.1 16 5 x5) 16 6 (M5.1 c 10)) 16 7 1), M5.2)) else some (none, ((zu (zu (zu M5.1 16 5 x5) 16 6 (M5.1 c 10)) 16 7 0), M5.2))))))))))))) := by
    rcases h with ⟨rfl, rfl⟩ | ⟨rfl, rfl⟩
    · exact x_X4_learn_0 g (nI t) M
    · exact x_X4_learn_0_1 g (nI t) M
  refine ⟨upd1 (upd1 (upd1 (upd1 (upd1 (upd1 (upd1 (upd1 (M.1 16) 0 (M.1 r (7 * t + 0))) 1 (M.1 r (7 * t + 1))) 2 (M.1 r (7 * t + 2))) 3 (M.1 c 4)) 4 (M.1 c 4 / 20)) 5 (M.1 r (7 * t + 4))) 6 (M.1 c 10)) 7 (b01 (cEq (M.1 c 7) (nI t))), ?_, fun j hj => up8 j hj⟩
  rw [key, getX g h (k := 0) (kk := 0) hn hc ht (by omega) rfl rfl, zbI_s, getX g h (k := 1) (kk := 1) hn (by dsimp only; rw [zu_ne hc16]; exact hc) ht (by omega) rfl rfl, zbI_s, getX g h (k := 2) (kk := 2) hn (by simp only [zu_ne hc16]; exact hc) ht (by omega) rfl rfl, zbI_s, kindX g h, zbI_s, getX g h (k := 4) (kk := 4) hn (by simp only [zu_ne hc16]; exact hc) ht (by omega) rfl rfl, zbI_s]
  simp only [zu_ne hc16, zu_ne hr16, zu_zr0, zr_zr, zr_row, zr_ne hc16, zr_ne hr16]
  cases cEq (M.1 c 7) (nI t) <;> rfl
theorem ix8 (d : Nat) : 8 + nI d = nI (8 + d) := by
  unfold nI
  rw [show (8 : Int32) = Int32.ofNat 8 from rfl, ← Int32.ofNat_add]
theorem ix28 (d : Nat) : 28 + nI d = nI (28 + d) := by
  unfold nI
  rw [show (28 : Int32) = Int32.ofNat 28 from rfl, ← Int32.ofNat_add]
theorem ix48 (d : Nat) : 48 + nI d = nI (48 + d) := by
  unfold nI
  rw [show (48 : Int32) = Int32.ofNat 48 from rfl, ← Int32.ofNat_add]
theorem ix18 (d : Nat) : 18 + nI d = nI (18 + d) := by
  unfold nI
  rw [show (18 : Int32) = Int32.ofNat 18 from rfl, ← Int32.ofNat_add]
theorem asks_s (g : zg) {t : Nat} {N : zM} (off : Int32) (ht : t < 10) : ∃ f, X_X12_asks g [.ref 72, .int (nI t), .int off] N = some (none, ((zr N.1 91 f), N.2)) ∧ (∀ j, j < 8 → f j = fm N.1 t j) ∧ f 8 = off := by
  refine ⟨upd1 (upd1 (upd1 (upd1 (upd1 (upd1 (upd1 (upd1 (upd1 (N.1 91) 0 (N.1 76 t)) 1 (N.1 77 t)) 2 (N.1 73 (8 + t))) 3 (N.1 73 3 + 50)) 4 ((N.1 73 3 + 50) / 20)) 5 (N.1 73 (28 + t))) 6 (N.1 73 0)) 7 (b01 (cEq (N.1 73 4 - 1) (nI t)))) 8 off, ?_, ?_, upd1_eq⟩
  · rw [x_X12_asks_0, ix8, ix28, zbT ht (by omega), bif_t, bif_t, zbT (by omega) (by omega), bif_t, zx_nI (by omega), zx_nI (by omega), x_X12_glass_0, zbI_s, x_X12_glass_0, zbI_s, x_X12_kindOf_0, zbI_s, zbT (by omega) (by omega), bif_t, zx_nI (by omega), x_X12_minister_0, zbI_s]
    simp only [zu_ne (show 73 ≠ 91 by omega), zu_zr0, zr_zr, zr_row, zr_ne (show 73 ≠ 91 by omega)]
    cases cEq (N.1 73 4 - 1) (nI t) <;> rfl
  · intro j hj
    rw [upd1_ne (by omega)]
    exact up8 j hj
/-- the court of the class in one memory, that of the reference in another -/
def CRJ (n c r : Nat) (I J : zI) : Prop := CR n (I c) (I r) (J 73) (J 72) (J 76) (J 77)
theorem CR_get {n : Nat} {cf cr rn md so fe : Nat → Int32} (h : CR n cf cr rn md so fe) {t k : Nat} (ht : t < n) (hk : k = 2 ∨ k = 4 ∨ k = 5) : cr (7 * t + k) = rn (10 * k - 12 + t) := by
  rw [CR_row h ht (by omega)]
  rcases hk with rfl | rfl | rfl <;> exact Int32.sub_zero _
theorem CR_get1 {n : Nat} {cf cr rn md so fe : Nat → Int32} (h : CR n cf cr rn md so fe) {t k : Nat} (ht : t < n) (hk : k = 3 ∨ k = 6) : cr (7 * t + k) = rn (10 * k - 12 + t) - 1 := by
  rw [CR_row h ht (by omega)]
  rcases hk with rfl | rfl <;> rfl
theorem CR_so {n : Nat} {cf cr rn md so fe : Nat → Int32} (h : CR n cf cr rn md so fe) {t : Nat} (ht : t < n) : cr (7 * t + 0) = so t := (CR_row h ht (by omega)).trans rfl
theorem CR_fe {n : Nat} {cf cr rn md so fe : Nat → Int32} (h : CR n cf cr rn md so fe) {t : Nat} (ht : t < n) : cr (7 * t + 1) = fe t := (CR_row h ht (by omega)).trans rfl
theorem CR_f {n : Nat} {cf cr rn md so fe : Nat → Int32} (h : CR n cf cr rn md so fe) : n ≤ 10 ∧ cf 2 = nI n ∧ md 6 = nI n ∧ cf 3 = rn 1 ∧ cf 4 = rn 3 + 50 ∧ cf 5 = md 7 ∧ cf 6 = md 8 - 10 ∧ cf 7 = rn 4 - 1 ∧ cf 8 = rn 5 ∧ cf 9 = rn 6 ∧ cf 10 = rn 0 ∧ cf 11 = rn 2 := ⟨h.1, h.2.1, h.2.2.1, h.2.2.2.1, h.2.2.2.2.1, h.2.2.2.2.2.1, h.2.2.2.2.2.2.1, h.2.2.2.2.2.2.2.1, h.2.2.2.2.2.2.2.2.1, h.2.2.2.2.2.2.2.2.2.1, h.2.2.2.2.2.2.2.2.2.2.1, h.2.2.2.2.2.2.2.2.2.2.2.1⟩
theorem fc_fm {n c r t : Nat} {I J : zI} (h : CRJ n c r I J) (ht : t < n) (j : Nat) : fc I c r t j = fm J t j := by
  obtain ⟨_, _, _, _, a4, _, _, a7, _, _, a10, _⟩ := CR_f h
  unfold fc fm
  rw [CR_so h ht, CR_fe h ht, CR_get h ht (k := 2) (by omega), CR_get h ht (k := 4) (by omega), a4, a7, a10]
theorem hld_ex {b : Nat} (hb : b < 2147483648) (x : Int32) : ∃ w, w ≤ b ∧ hld x 0 (nI b) = nI w := by
  unfold hld
  cases h1 : cLt x 0
  · cases h2 : cGt x (nI b)
    · have h3 : inb x 0 (nI b) = true := by unfold inb; rw [h1, h2]; rfl
      obtain ⟨k, hk, e⟩ := inb_ex hb h3
      exact ⟨k, hk, e⟩
    · exact ⟨b, Nat.le_refl b, rfl⟩
  · exact ⟨0, by omega, rfl⟩
theorem tell_al (g : zg) {c r : Nat} (h : CO c r) {n t : Nat} {m : Nat} {wd fr wh en o k : Nat → Nat} {M N : zM} (hl : LW m wd fr wh en o k M.1 N.1) (hcr : CRJ n c r M.1 N.1) (ht : t < n) :
    ∃ f1 s1 f2 s2 w, w ≤ 4 ∧ X_X10_tellBy g [.ref 6, .ref c, .int (nI t)] M = some (some (.int (nI w)), ((zr (zr M.1 16 f1) 15 s1), M.2)) ∧ X_X12_tellOf g [.ref 72, .int (nI t)] N = some (some (.int (nI w)), ((zr (zr N.1 91 f2) 92 s2), N.2)) := by
  obtain ⟨hn, hc, _, _, a4, _⟩ := CR_f hcr
  obtain ⟨f, e1, p1⟩ := learn_s g h hn hc ht
  obtain ⟨f', e2, p2, p3⟩ := asks_s g (t := t) (N := N) 0 (by omega)
  have hc16 : c ≠ 16 := by rcases h with ⟨rfl, rfl⟩ | ⟨rfl, rfl⟩ <;> omega
  have key : X_X10_tellBy g [.ref 6, .ref c, .int (nI t)] M = (zbV (X_X4_learn g [.ref 9, .ref c, .int (nI t)] M) (fun M1 => (zbI (X_X3_kind g [.ref c] M1) (fun x2 M2 => (zbI (X_X4_answer g [.ref 9, .int 137, .int 0, .int x2] M2) (fun x3 M3 => (zbI (X_X11_hold g [.int x3, .int 0, .int 4] M3) (fun x4 M4 => some (some (.int x4), M4))))))))) := by
    rcases h with ⟨rfl, rfl⟩ | ⟨rfl, rfl⟩
    · exact x_X10_tellBy_0 g (nI t) M
    · exact x_X10_tellBy_0_1 g (nI t) M
  have hl' : LW m wd fr wh en o k (zr M.1 16 f) (zr N.1 91 f') := LW_of hl (by rw [zr_ne (by omega)]) (zr_ne (by omega)) (zr_ne (by omega)) (zr_ne (by omega)) (zr_ne (by omega)) (zr_ne (by omega)) (by rw [zr_ne (by omega)]) (zr_ne (by omega)) (zr_ne (by omega)) (zr_ne (by omega)) (zr_ne (by omega)) (zr_ne (by omega)) (zr_ne (by omega))
  have hfa : ∀ j, j < 8 → (((zr M.1 16 f), M.2) : zM).1 16 j = (((zr N.1 91 f'), N.2) : zM).1 91 j := by
    intro j hj
    dsimp only
    rw [zr_row, zr_row, p1 j hj, p2 j hj, fc_fm hcr ht]
  obtain ⟨cs, rs, v, q1, q2⟩ := law_tells g (M := ((zr M.1 16 f), M.2)) (N := ((zr N.1 91 f'), N.2)) hl' hfa (w := 0) (by omega) 0 (M.1 c 4 / 20) 4 (by dsimp only; rw [zr_row]; exact p3) (by decide) (ww := 137) (mw := 0) rfl rfl
  obtain ⟨w, hw, ew⟩ := hld_ex (b := 4) (by omega) v
  have ew' : hld v 0 4 = nI w := ew
  refine ⟨upd1 f 8 0, cs, f', rs, w, hw, ?_, ?_⟩
  · rw [key, e1, zbV_s, kindX g h, zbI_s]
    dsimp only
    rw [zr_ne hc16, q1, zbI_s, hold_s g (by decide), zbI_s, ew']
    dsimp only
    rw [zu_zr]
  · rw [x_X12_tellOf_0, e2, zbV_s]
    dsimp only
    rw [zr_row, p2 4 (by omega)]
    have e4 : fm N.1 t 4 = M.1 c 4 / 20 := by
      rw [a4]
      rfl
    rw [e4, q2, zbI_s, ew']
theorem err_al (g : zg) {c r : Nat} (h : CO c r) {n t : Nat} {m : Nat} {wd fr wh en o k : Nat → Nat} {M N : zM} (hl : LW m wd fr wh en o k M.1 N.1) (hcr : CRJ n c r M.1 N.1) (ht : t < n) :
    ∃ f1 s1 f2 s2 w, w ≤ 1000 ∧ X_X10_errBy g [.ref 6, .ref c, .int (nI t)] M = some (some (.int (nI w)), ((zr (zr M.1 16 f1) 15 s1), M.2)) ∧ X_X12_errOf g [.ref 72, .int (nI t)] N = some (some (.int (nI w)), ((zr (zr N.1 91 f2) 92 s2), N.2)) := by
  obtain ⟨hn, hc, _, _, a4, _⟩ := CR_f hcr
  obtain ⟨f, e1, p1⟩ := learn_s g h hn hc ht
  obtain ⟨f', e2, p2, p3⟩ := asks_s g (t := t) (N := N) 0 (by omega)
  have hc16 : c ≠ 16 := by rcases h with ⟨rfl, rfl⟩ | ⟨rfl, rfl⟩ <;> omega
  have hr16 : r ≠ 16 := by rcases h with ⟨rfl, rfl⟩ | ⟨rfl, rfl⟩ <;> omega
  have key : X_X10_errBy g [.ref 6, .ref c, .int (nI t)] M = (zbV (X_X4_learn g [.ref 9, .ref c, .int (nI t)] M) (fun M1 => (zbI (X_X3_get g [.ref c, .int (nI t), .int 1] M1) (fun x2 M2 => (zbI (X_X4_answer g [.ref 9, .int 138, .int 0, .int (100 * x2)] M2) (fun x3 M3 => (zbI (X_X11_hold g [.int x3, .int 0, .int 1000] M3) (fun x4 M4 => some (some (.int x4), M4))))))))) := by
    rcases h with ⟨rfl, rfl⟩ | ⟨rfl, rfl⟩
    · exact x_X10_errBy_0 g (nI t) M
    · exact x_X10_errBy_0_1 g (nI t) M
  have hl' : LW m wd fr wh en o k (zr M.1 16 f) (zr N.1 91 f') := LW_of hl (by rw [zr_ne (by omega)]) (zr_ne (by omega)) (zr_ne (by omega)) (zr_ne (by omega)) (zr_ne (by omega)) (zr_ne (by omega)) (by rw [zr_ne (by omega)]) (zr_ne (by omega)) (zr_ne (by omega)) (zr_ne (by omega)) (zr_ne (by omega)) (zr_ne (by omega)) (zr_ne (by omega))
  have hfa : ∀ j, j < 8 → (((zr M.1 16 f), M.2) : zM).1 16 j = (((zr N.1 91 f'), N.2) : zM).1 91 j := by
    intro j hj
    dsimp only
    rw [zr_row, zr_row, p1 j hj, p2 j hj, fc_fm hcr ht]
  obtain ⟨cs, rs, v, q1, q2⟩ := law_tells g (M := ((zr M.1 16 f), M.2)) (N := ((zr N.1 91 f'), N.2)) hl' hfa (w := 1) (by omega) 0 (100 * N.1 77 t) 1000 (by dsimp only; rw [zr_row]; exact p3) (by decide) (ww := 138) (mw := 1) rfl rfl
  obtain ⟨w, hw, ew⟩ := hld_ex (b := 1000) (by omega) v
  have ew' : hld v 0 1000 = nI w := ew
  refine ⟨upd1 f 8 0, cs, f', rs, w, hw, ?_, ?_⟩
  · rw [key, e1, zbV_s, getX g h (k := 1) (kk := 1) hn (by dsimp only; rw [zr_ne hc16]; exact hc) ht (by omega) rfl rfl, zbI_s]
    dsimp only
    rw [zr_ne hr16, CR_fe hcr ht, q1, zbI_s, hold_s g (by decide), zbI_s, ew']
    dsimp only
    rw [zu_zr]
  · rw [x_X12_errOf_0, e2, zbV_s, zbT (by omega) (by omega), bif_t, zx_nI (by omega)]
    dsimp only
    rw [zr_ne (show 77 ≠ 91 by omega), q2, zbI_s, ew']
theorem abs_far : ∀ (a : Fin 6) (b : Fin 5), (bif cLt0 (nI a.val - 1 - nI b.val) then -(nI a.val - 1 - nI b.val) else nI a.val - 1 - nI b.val) = (bif cGt (nI a.val - 1) (nI b.val) then nI a.val - 1 - nI b.val else nI b.val - (nI a.val - 1)) := by decide +kernel
theorem blame_al6 (g : zg) {c r : Nat} (h : CO c r) {n t s q : Nat} {m : Nat} {wd fr wh en o k : Nat → Nat} {M N : zM} (hl : LW m wd fr wh en o k M.1 N.1) (hcr : CRJ n c r M.1 N.1) (ht : t < n) (hs : s ≤ 5) (hq : q ≤ 99) (eq : M.1 c 4 = nI q) :
    ∃ f1 s1 f2 s2 w, w ≤ 99 ∧ X_X10_blameBy g [.ref 6, .ref c, .int (nI t), .int (nI s - 1)] M = some (some (.int (nI w)), ((zr (zr M.1 16 f1) 15 s1), M.2)) ∧ X_X12_blameFor g [.ref 72, .int (nI t), .int (nI s - 1)] N = some (some (.int (nI w)), ((zr (zr N.1 91 f2) 92 s2), N.2)) := by
  obtain ⟨hn, hc, _, _, a4, _⟩ := CR_f hcr
  have hk : M.1 c 4 / 20 = nI (q / 20) := by rw [eq]; exact idiv_nI (d := 20) (by omega) (by omega) (by omega)
  have af := abs_far ⟨s, by omega⟩ ⟨q / 20, by omega⟩
  dsimp only at af
  obtain ⟨off, hoff⟩ : ∃ off, off = (bif cGt (nI s - 1) (nI (q / 20)) then nI s - 1 - nI (q / 20) else nI (q / 20) - (nI s - 1)) := ⟨_, rfl⟩
  rw [← hoff] at af
  obtain ⟨f, e1, p1⟩ := learn_s g h hn hc ht
  obtain ⟨f', e2, p2, p3⟩ := asks_s g (t := t) (N := N) off (by omega)
  have key : X_X10_blameBy g [.ref 6, .ref c, .int (nI t), .int (nI s - 1)] M = (zbI (X_X3_kind g [.ref c] M) (fun x1 M1 => (zbI (X_J9_abs_0f7a4 g [.int (nI s - 1 - x1)] M1) (fun x2 M2 => (zbV (X_X4_learn g [.ref 9, .ref c, .int (nI t)] M2) (fun M3 => (zbI (X_X4_answer g [.ref 9, .int 139, .int x2, .int (3 * x2)] M3) (fun x4 M4 => (zbI (X_X11_hold g [.int x4, .int 0, .int 99] M4) (fun x5 M5 => some (some (.int x5), M5))))))))))) := by
    rcases h with ⟨rfl, rfl⟩ | ⟨rfl, rfl⟩
    · exact x_X10_blameBy_0 g (nI t) (nI s - 1) M
    · exact x_X10_blameBy_0_1 g (nI t) (nI s - 1) M
  have hl' : LW m wd fr wh en o k (zr M.1 16 f) (zr N.1 91 f') := LW_of hl (by rw [zr_ne (by omega)]) (zr_ne (by omega)) (zr_ne (by omega)) (zr_ne (by omega)) (zr_ne (by omega)) (zr_ne (by omega)) (by rw [zr_ne (by omega)]) (zr_ne (by omega)) (zr_ne (by omega)) (zr_ne (by omega)) (zr_ne (by omega)) (zr_ne (by omega)) (zr_ne (by omega))
  have hfa : ∀ j, j < 8 → (((zr M.1 16 f), M.2) : zM).1 16 j = (((zr N.1 91 f'), N.2) : zM).1 91 j := by
    intro j hj
    dsimp only
    rw [zr_row, zr_row, p1 j hj, p2 j hj, fc_fm hcr ht]
  obtain ⟨cs, rs, v, q1, q2⟩ := law_tells g (M := ((zr M.1 16 f), M.2)) (N := ((zr N.1 91 f'), N.2)) hl' hfa (w := 2) (by omega) off (3 * off) 99 (by dsimp only; rw [zr_row]; exact p3) (by decide) (ww := 139) (mw := 2) rfl rfl
  obtain ⟨w, hw, ew⟩ := hld_ex (b := 99) (by omega) v
  have ew' : hld v 0 99 = nI w := ew
  refine ⟨upd1 f 8 off, cs, f', rs, w, hw, ?_, ?_⟩
  · rw [key, kindX g h, zbI_s, hk, x_J9_abs_0f7a4_0, bif_push, af, zbI_s, e1, zbV_s, q1, zbI_s, hold_s g (by decide), zbI_s, ew']
    dsimp only
    rw [zu_zr]
  · rw [x_X12_blameFor_0, x_X12_glass_0, zbI_s, x_X12_kindOf_0, zbI_s, ← a4, hk, x_X12_far_0, bif_push, ← hoff, zbI_s, e2, zbV_s]
    dsimp only
    rw [zr_row, p3, q2, zbI_s, ew']
theorem blame_al (g : zg) {c r : Nat} (h : CO c r) {n t s q : Nat} {m : Nat} {wd fr wh en o k : Nat → Nat} {M N : zM} (hl : LW m wd fr wh en o k M.1 N.1) (hcr : CRJ n c r M.1 N.1) (ht : t < n) (hs : s ≤ 4) (hq : q ≤ 99) (eq : M.1 c 4 = nI q) :
    ∃ f1 s1 f2 s2 w, w ≤ 99 ∧ X_X10_blameBy g [.ref 6, .ref c, .int (nI t), .int (nI s)] M = some (some (.int (nI w)), ((zr (zr M.1 16 f1) 15 s1), M.2)) ∧ X_X12_blameFor g [.ref 72, .int (nI t), .int (nI s)] N = some (some (.int (nI w)), ((zr (zr N.1 91 f2) 92 s2), N.2)) := by
  have e := blame_al6 g h (s := s + 1) hl hcr ht (by omega) hq eq
  rw [nI_p1] at e
  exact e
