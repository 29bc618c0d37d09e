/-! PURE ROWS: a day goes by on both sides -/
theorem CR_ext7 {n : Nat} {cf cr rn md so fe cf' cr' rn' md' : Nat → Int32} (h : CR n cf cr rn md so fe) (h1 : ∀ k, 2 ≤ k → k ≤ 11 → cf' k = cf k) (h2 : ∀ k, k < 70 → cr' k = cr k) (h3 : ∀ k, k < 58 → k ≠ 7 → rn' k = rn k) (m6 : md' 6 = md 6) (m7 : md' 7 = md 7) (m8 : md' 8 = md 8) : CR n cf' cr' rn' md' so fe := by
  obtain ⟨hn, a1, a2, a3, a4, a5, a6, a7, a8, a9, a10, a11, hc, he⟩ := h
  refine ⟨hn, ?_, m6.trans a2, ?_, ?_, ?_, ?_, ?_, ?_, ?_, ?_, ?_, ?_, ?_⟩
  · rw [h1 _ (by omega) (by omega)]; exact a1
  · rw [h1 _ (by omega) (by omega), h3 _ (by omega) (by omega)]; exact a3
  · rw [h1 _ (by omega) (by omega), h3 _ (by omega) (by omega)]; exact a4
  · rw [h1 _ (by omega) (by omega), m7]; exact a5
  · rw [h1 _ (by omega) (by omega), m8]; exact a6
  · rw [h1 _ (by omega) (by omega), h3 _ (by omega) (by omega)]; exact a7
  · rw [h1 _ (by omega) (by omega), h3 _ (by omega) (by omega)]; exact a8
  · rw [h1 _ (by omega) (by omega), h3 _ (by omega) (by omega)]; exact a9
  · rw [h1 _ (by omega) (by omega), h3 _ (by omega) (by omega)]; exact a10
  · rw [h1 _ (by omega) (by omega), h3 _ (by omega) (by omega)]; exact a11
  · intro t ht k hk
    rw [h2 _ (by omega), hc t ht k hk]
    unfold rcell
    by_cases k0 : k = 0
    · rw [if_pos k0, if_pos k0]
    · by_cases k1 : k = 1
      · rw [if_neg k0, if_pos k1, if_neg k0, if_pos k1]
      · rw [if_neg k0, if_neg k1, if_neg k0, if_neg k1, h3 _ (by omega) (by omega)]
  · intro t h4 h5 k h6 h7
    rw [h3 _ (by omega) (by omega)]
    exact he t h4 h5 k h6 h7
theorem RG_ext {n d : Nat} {rn so fe rn' : Nat → Int32} (h : RG n d rn so fe) (hn : n ≤ 10) (h3 : ∀ k, k < 58 → k ≠ 7 → rn' k = rn k) : RG n d rn' so fe := by
  obtain ⟨b0, b3, b4, bt⟩ := h
  refine ⟨by rw [h3 _ (by omega) (by omega)]; exact b0, by rw [h3 _ (by omega) (by omega)]; exact b3, by rw [h3 _ (by omega) (by omega)]; exact b4, ?_⟩
  intro t ht
  rw [h3 (18 + t) (by omega) (by omega), h3 (28 + t) (by omega) (by omega), h3 (48 + t) (by omega) (by omega)]
  exact bt t ht
theorem PR_rec {b : Bool} {c r n d : Nat} {I J I' J' : zI} (hcr : CO c r) (h : PR b c r n d I J) (h1 : ∀ k, k ≠ 12 → I' c k = I c k) (h2 : I' r = I r) (h3 : I' 26 = I 26) (h4 : ∀ a, a ≠ 73 → J' a = J a) (h5 : ∀ j, j < 58 → j ≠ 7 → J' 73 j = J 73 j) : PR b c r n d I' J' := by
  obtain ⟨p1, p2, p3, p4, l, hl, p5, p6⟩ := h
  refine ⟨?_, ?_, by rw [h1 0 (by omega)]; exact p3, by rw [h4 72 (by omega)]; exact p4, l, hl, by rw [h5 2 (by omega) (by omega)]; exact p5, by rw [h3, h4 78 (by omega)]; exact p6⟩
  · unfold CRJ
    rw [h4 72 (by omega), h4 76 (by omega), h4 77 (by omega)]
    exact CR_ext7 p1 (fun k _ _ => h1 k (by omega)) (fun k _ => by rw [h2]) h5 rfl rfl rfl
  · rw [h4 76 (by omega), h4 77 (by omega)]
    exact RG_ext p2 p1.1 h5
def WF (c r : Nat) (I I' : zI) : Prop := (∀ a, a ≠ c → a ≠ r → a ≠ 15 → a ≠ 16 → a ≠ 26 → a ≠ 28 → a ≠ 29 → I' a = I a) ∧ ∀ k, k = 0 ∨ k = 2 ∨ k = 5 ∨ k = 6 → I' c k = I c k
def WG (J J' : zI) : Prop := (∀ a, a ≠ 72 → a ≠ 73 → a ≠ 78 → a ≠ 91 → a ≠ 92 → J' a = J a) ∧ (∀ k, k ≠ 41 → k ≠ 42 → J' 72 k = J 72 k) ∧ LN J J'
theorem WF_P {c r : Nat} {I I' : zI} (h : PF c r I I') : WF c r I I' := ⟨fun a b1 b2 b3 b4 b5 _ _ => h.1 a b1 b2 b3 b4 b5, fun k hk => h.2 k (by omega)⟩
theorem WG_Q {J J' : zI} (h : QF J J') : WG J J' := ⟨h.1, fun k _ _ => h.2.1 k, h.2.2.2⟩
theorem WF_tr {c r : Nat} {I I1 I2 : zI} (h1 : WF c r I I1) (h2 : WF c r I1 I2) : WF c r I I2 := ⟨fun a b1 b2 b3 b4 b5 b6 b7 => (h2.1 a b1 b2 b3 b4 b5 b6 b7).trans (h1.1 a b1 b2 b3 b4 b5 b6 b7), fun k hk => (h2.2 k hk).trans (h1.2 k hk)⟩
theorem WG_tr {I I1 I2 : zI} (h1 : WG I I1) (h2 : WG I1 I2) : WG I I2 := ⟨fun a b1 b2 b3 b4 b5 => (h2.1 a b1 b2 b3 b4 b5).trans (h1.1 a b1 b2 b3 b4 b5), fun k b1 b2 => (h2.2.1 k b1 b2).trans (h1.2.1 k b1 b2), LN_tr h1.2.2 h2.2.2⟩
theorem LW_w {m : Nat} {wd fr wh en o k : Nat → Nat} {c r : Nat} (hcr : CO c r) {I J I' J' : zI} (h : LW m wd fr wh en o k I J) (h1 : WF c r I I') (h2 : WG J J') : LW m wd fr wh en o k I' J' := by
  have p : ∀ a, 9 ≤ a → a ≤ 14 → I' a = I a := fun a u1 u2 => h1.1 a (by rcases hcr with ⟨rfl, rfl⟩ | ⟨rfl, rfl⟩ <;> omega) (by rcases hcr with ⟨rfl, rfl⟩ | ⟨rfl, rfl⟩ <;> omega) (by omega) (by omega) (by omega) (by omega) (by omega)
  have q : ∀ a, 81 ≤ a → a ≤ 87 → J' a = J a := fun a u1 u2 => h2.1 a (by omega) (by omega) (by omega) (by omega) (by omega)
  exact LW_of h (by rw [p 9 (by omega) (by omega)]) (p 10 (by omega) (by omega)) (p 11 (by omega) (by omega)) (p 12 (by omega) (by omega)) (p 13 (by omega) (by omega)) (p 14 (by omega) (by omega)) (by rw [q 81 (by omega) (by omega)]) (q 82 (by omega) (by omega)) (q 83 (by omega) (by omega)) (q 84 (by omega) (by omega)) (q 85 (by omega) (by omega)) (q 86 (by omega) (by omega)) (q 87 (by omega) (by omega))
theorem RO_w {m : Nat} {la : Nat → Nat} {mv : Nat → Int32} {c r : Nat} (hcr : CO c r) {I J I' J' : zI} (h : RO m la mv I J) (h1 : WF c r I I') (h2 : WG J J') : RO m la mv I' J' := by
  have p : ∀ a, 17 ≤ a → a ≤ 19 → I' a = I a := fun a u1 u2 => h1.1 a (by rcases hcr with ⟨rfl, rfl⟩ | ⟨rfl, rfl⟩ <;> omega) (by rcases hcr with ⟨rfl, rfl⟩ | ⟨rfl, rfl⟩ <;> omega) (by omega) (by omega) (by omega) (by omega) (by omega)
  exact RO_of h (p 17 (by omega) (by omega)) (p 18 (by omega) (by omega)) (p 19 (by omega) (by omega)) (h2.2.1 35 (by omega) (by omega)) (h2.1 89 (by omega) (by omega) (by omega) (by omega) (by omega))
theorem AG_w {m n : Nat} {dy wt wm mu : Nat → Nat} {c r : Nat} (hcr : CO c r) {I J I' J' : zI} (h : AG m n dy wt wm mu I J) (h1 : WF c r I I') (h2 : WG J J') : AG m n dy wt wm mu I' J' := by
  have p : ∀ a, 20 ≤ a → a ≤ 24 → I' a = I a := fun a u1 u2 => h1.1 a (by rcases hcr with ⟨rfl, rfl⟩ | ⟨rfl, rfl⟩ <;> omega) (by rcases hcr with ⟨rfl, rfl⟩ | ⟨rfl, rfl⟩ <;> omega) (by omega) (by omega) (by omega) (by omega) (by omega)
  exact AG_of h (p 20 (by omega) (by omega)) (p 21 (by omega) (by omega)) (p 22 (by omega) (by omega)) (p 23 (by omega) (by omega)) (p 24 (by omega) (by omega)) (h2.2.1 37 (by omega) (by omega)) (h2.1 90 (by omega) (by omega) (by omega) (by omega) (by omega))
/-- what a morning that was recorded does to the records -/
def RC (b : Bool) (c : Nat) (I J I' J' : zI) : Prop := (b = false → I' 28 = I 28 ∧ I' 29 = I 29 ∧ I' c 12 = I c 12) ∧ (∃ k', k' ≤ 90 ∧ J' 73 7 = nI k') ∧ (b = true → ∀ rr cd ca, rr < 1000000 → I c 12 = nI rr → MR (I 28) (I 29) rr cd ca (J 73) → (∀ j, j ≠ rr % 96 → I' 28 j = I 28 j) ∧ (∀ j, (j < 10 * (rr % 96) ∨ 10 * (rr % 96) + 10 ≤ j) → I' 29 j = I 29 j) ∧ ∃ rr' cd' ca', rr ≤ rr' ∧ rr' ≤ rr + 1 ∧ I' c 12 = nI rr' ∧ MR (I' 28) (I' 29) rr' cd' ca' (J' 73))
theorem record_al (g : zg) {b : Bool} {c r n d : Nat} (hcr : CO c r) {M N : zM} (an : Bool) (h : PR b c r n d M.1 N.1) (han : an = true ↔ ∃ t, t < n ∧ ¬ N.1 73 (48 + t) = 0) (h7 : ∃ k, k ≤ 90 ∧ N.1 73 7 = nI k) (h12 : b = true → ∃ rr, rr < 1000000 ∧ M.1 c 12 = nI rr) : ∃ I' J', (bif cEq0 (b01 an) then some (none, M) else bif cEq0 (M.1 c 0) then some (none, M) else X_X5_add g [.ref 27, .ref c] M) = (some (none, (I', M.2)) : Option (Option Value × zM)) ∧ X_X12_records g [.ref 72] N = some (none, (J', N.2)) ∧ PR b c r n d I' J' ∧ WF c r M.1 I' ∧ WG N.1 J' ∧ (∀ k, J' 72 k = N.1 72 k) ∧ RC b c M.1 N.1 I' J' := by
  obtain ⟨hn, hc, hm⟩ := PR_n h
  obtain ⟨q, hq, eq0, eq1⟩ := PR_q h
  obtain ⟨k, hk, ek⟩ := h7
  have hc28 : c ≠ 28 ∧ c ≠ 29 ∧ r ≠ 28 ∧ r ≠ 29 ∧ r ≠ c ∧ 26 ≠ c := by rcases hcr with ⟨rfl, rfl⟩ | ⟨rfl, rfl⟩ <;> omega
  have hu : ∀ t, t < n → N.1 73 (48 + t) = nI (zx (N.1 73 (48 + t))) ∧ zx (N.1 73 (48 + t)) ≤ 5 := by
    intro t ht
    obtain ⟨_, _, ⟨y, hy, ey⟩, _⟩ := h.2.1.2.2.2 t ht
    rw [ey, zx_nI (by omega)]
    exact ⟨rfl, hy⟩
  obtain ⟨J', q1, q2, q3, q4, q5⟩ := rec_s g (u := fun t => zx (N.1 73 (48 + t))) hn hm hu hk ek hq eq1
  have hcd : an = true ↔ ¬ cdA (fun t => zx (N.1 73 (48 + t))) n = 0 := by
    rw [han, cdA_0]
    constructor
    · rintro ⟨t, ht, h1⟩ h2
      have := h2 t ht
      have e := (hu t ht).1
      rw [this] at e
      exact h1 e
    · intro h1
      apply Classical.byContradiction
      intro h2
      apply h1
      intro t ht
      apply Classical.byContradiction
      intro h3
      apply h2
      refine ⟨t, ht, ?_⟩
      intro h4
      apply h3
      rw [h4]
      rfl
  have hWG : WG N.1 J' := ⟨fun a _ b2 _ _ _ => q2 a b2, fun k _ _ => by rw [q2 72 (by omega)], LN_eq (q3 2 (by omega) (by omega))⟩
  have h72 : ∀ k, J' 72 k = N.1 72 k := fun k => by rw [q2 72 (by omega)]
  cases an with
  | false =>
    have h0 : cdA (fun t => zx (N.1 73 (48 + t))) n = 0 := Classical.byContradiction (fun h0 => absurd (hcd.mpr h0) (by decide))
    have e := q4 h0
    subst e
    refine ⟨M.1, N.1, rfl, q1, h, ⟨fun _ _ _ _ _ _ _ _ => rfl, fun _ _ => rfl⟩, ⟨fun _ _ _ _ _ _ => rfl, fun _ _ _ => rfl, LN_eq rfl⟩, fun _ => rfl, ⟨fun _ => ⟨rfl, rfl, rfl⟩, ⟨k, hk, ek⟩, ?_⟩⟩
    intro _ rr cd ca hrr e12 hmr
    exact ⟨fun _ _ => rfl, fun _ _ => rfl, rr, cd, ca, by omega, by omega, e12, hmr⟩
  | true =>
    obtain ⟨w1, w2, w3⟩ := q5 (hcd.mp rfl)
    have hk' : ∃ k', k' ≤ 90 ∧ J' 73 7 = nI k' := ⟨min (k + 1) 90, by omega, w1⟩
    rw [show cEq0 (b01 true) = false from by decide, bif_f, h.2.2.1, cEq0_b01]
    cases b with
    | false =>
      refine ⟨M.1, J', rfl, q1, PR_rec hcr h (fun _ _ => rfl) rfl rfl q2 q3, ⟨fun _ _ _ _ _ _ _ _ => rfl, fun _ _ => rfl⟩, hWG, h72, ⟨fun _ => ⟨rfl, rfl, rfl⟩, hk', fun h => absurd h (by decide)⟩⟩
    | true =>
      obtain ⟨rr, hrr, e12⟩ := h12 rfl
      obtain ⟨I', p1, p2, p3, p4, p5, p6, p7⟩ := add_s' g hcr hn hc e12 hrr hq eq0
      refine ⟨I', J', p1, q1, PR_rec hcr h p3 (p2 r hc28.2.2.2.2.1 hc28.2.2.1 hc28.2.2.2.1) (p2 26 hc28.2.2.2.2.2 (by omega) (by omega)) q2 q3, ⟨fun a b1 _ _ _ _ b6 b7 => p2 a b1 b6 b7, fun k hk => p3 k (by omega)⟩, hWG, h72, ⟨fun h => absurd h (by decide), hk', ?_⟩⟩
      intro _ rr2 cd ca hrr2 e12' hmr
      have err : rr2 = rr := (nI_eq (by omega) (by omega)).mp (e12'.symm.trans e12)
      subst err
      have hs : rr2 % 96 < 96 := Nat.mod_lt _ (by omega)
      refine ⟨fun j hj => by rw [p5, upd1_ne hj], p7, rr2 + 1, fun j => if j = min (rr2 + 1) 90 - 1 then cdA (fun t => zx (N.1 73 (48 + t))) n else cd (j + if min rr2 90 = 90 then 1 else 0), fun j => if j = min (rr2 + 1) 90 - 1 then q / 20 else ca (j + if min rr2 90 = 90 then 1 else 0), by omega, by omega, p4, ?_⟩
      have ekk : k = min rr2 90 := (nI_eq (by omega) (by omega)).mp (ek.symm.trans hmr.1)
      subst ekk
      refine ⟨?_, ?_⟩
      · rw [w1]
        congr 1
        omega
      · intro j hj
        have emin : min (min rr2 90 + 1) 90 = min (rr2 + 1) 90 := by omega
        rw [emin] at w2 w3
        dsimp only
        by_cases ej : j = min (rr2 + 1) 90 - 1
        · rw [if_pos ej, if_pos ej]
          have eidx : rr2 + 1 - min (rr2 + 1) 90 + j = rr2 := by omega
          rw [eidx]
          have hlt := cdA_lt (u := fun t => zx (N.1 73 (48 + t))) n (fun t ht => (hu t ht).2)
          have h6 := pow6 (Nat.le_refl n) hn
          refine ⟨by omega, by omega, ?_, ?_, ?_⟩
          · rw [ej]; exact w2
          · rw [p5, upd1_eq]
          · intro t ht
            rw [p6 t ht, cdA_dig n (fun t ht => (hu t ht).2) t]
            by_cases htn : t < n
            · rw [if_pos htn, if_pos htn, CR_sd h.1 htn]
              exact congrArg (· - 1) (hu t htn).1
            · rw [if_neg htn, if_neg htn]
              decide
        · rw [if_neg ej, if_neg ej]
          have hj2 : j < min (rr2 + 1) 90 - 1 := by omega
          have hw := w3 j hj2
          obtain ⟨o1, o2, o3, o4, o5⟩ := hmr.2 (j + if min rr2 90 = 90 then 1 else 0) (by split <;> omega)
          have eidx : rr2 - min rr2 90 + (j + if min rr2 90 = 90 then 1 else 0) = rr2 + 1 - min (rr2 + 1) 90 + j := by split <;> omega
          rw [eidx] at o4 o5
          have hne : (rr2 + 1 - min (rr2 + 1) 90 + j) % 96 ≠ rr2 % 96 := by omega
          refine ⟨o1, o2, hw.trans o3, ?_, ?_⟩
          · rw [p5, upd1_ne hne]; exact o4
          · intro t ht
            rw [p7 _ (by omega)]
            exact o5 t ht
