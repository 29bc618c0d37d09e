/-! PURE ROWS: all that an image has, on both sides -/
theorem CR_x {n : Nat} {cf cr rn md so fe cf' cr' rn' md' so' fe' : Nat → Int32} (h : CR n cf cr rn md so fe) (h1 : ∀ k, 2 ≤ k → k ≤ 11 → cf' k = cf k) (h2 : ∀ k, k < 70 → cr' k = cr k) (h3 : ∀ k, k < 58 → k ≠ 7 → rn' k = rn k) (m6 : md' 6 = md 6) (m7 : md' 7 = md 7) (m8 : md' 8 = md 8) (hso : ∀ t, t < 10 → so' t = so t) (hfe : ∀ t, t < 10 → fe' t = fe t) : CR n cf' cr' rn' md' so' fe' := by
  have e := CR_ext7 h h1 h2 h3 m6 m7 m8
  obtain ⟨hn, a1, a2, a3, a4, a5, a6, a7, a8, a9, a10, a11, hc, he⟩ := e
  refine ⟨hn, a1, a2, a3, a4, a5, a6, a7, a8, a9, a10, a11, ?_, he⟩
  intro t ht k hk
  rw [hc t ht k hk]
  unfold rcell
  rw [hso t (by omega), hfe t (by omega)]
theorem RG_x {n d : Nat} {rn so fe rn' so' fe' : Nat → Int32} (h : RG n d rn so fe) (hn : n ≤ 10) (h3 : ∀ k, k < 58 → k ≠ 7 → rn' k = rn k) (hso : ∀ t, t < 10 → so' t = so t) (hfe : ∀ t, t < 10 → fe' t = fe t) : RG n d rn' so' fe' := by
  obtain ⟨b0, b3, b4, bt⟩ := RG_ext h hn h3
  refine ⟨b0, b3, b4, fun t ht => ?_⟩
  rw [hso t (by omega), hfe t (by omega)]
  exact bt t ht
theorem MR_x {cm sd cm' sd' rn rn' : Nat → Int32} {r : Nat} {cd ca : Nat → Nat} (h : MR cm sd r cd ca rn) (h1 : ∀ k, k < 148 → rn' k = rn k) (h2 : ∀ j, j < 96 → cm' j = cm j) (h3 : ∀ j, j < 960 → sd' j = sd j) : MR cm' sd' r cd ca rn' := by
  refine ⟨(h1 7 (by omega)).trans h.1, fun d hd => ?_⟩
  obtain ⟨o1, o2, o3, o4, o5⟩ := h.2 d hd
  have hm : (r - min r 90 + d) % 96 < 96 := Nat.mod_lt _ (by omega)
  refine ⟨o1, o2, (h1 _ (by omega)).trans o3, (h2 _ hm).trans o4, fun t ht => (h3 _ (by omega)).trans (o5 t ht)⟩
theorem LW_x {m : Nat} {wd fr wh en o k : Nat → Nat} {I J I' J' : zI} (h : LW m wd fr wh en o k I J) (h9 : I' 9 8 = I 9 8) (h10 : ∀ j, j < 16 → I' 10 j = I 10 j ∧ I' 11 j = I 11 j ∧ I' 12 j = I 12 j ∧ I' 13 j = I 13 j) (h14 : ∀ j, j < 400 → I' 14 j = I 14 j) (h81 : J' 81 0 = J 81 0) (h82 : ∀ j, j < 16 → J' 82 j = J 82 j ∧ J' 83 j = J 83 j ∧ J' 84 j = J 84 j ∧ J' 85 j = J 85 j) (h86 : ∀ j, j < 400 → J' 86 j = J 86 j ∧ J' 87 j = J 87 j) : LW m wd fr wh en o k I' J' := by
  obtain ⟨a1, a2, a3, a4⟩ := h
  refine ⟨a1, h9.trans a2, h81.trans a3, fun l hl => ?_⟩
  obtain ⟨⟨b1, b2, b3⟩, ⟨c1, c2, c3, c4, c5, c6⟩, ⟨d1, d2, d3⟩, t1, t2, hc⟩ := a4 l hl
  obtain ⟨x0, x1, x2, x3⟩ := h10 l (by omega)
  obtain ⟨y0, y1, y2, y3⟩ := h82 l (by omega)
  refine ⟨⟨b1, x0.trans b2, y0.trans b3⟩, ⟨x1.trans c1, y1.trans c2, x2.trans c3, y2.trans c4, x3.trans c5, y3.trans c6⟩, ⟨d1, d2, d3⟩, t1, t2, fun j h1 h2 => ?_⟩
  obtain ⟨e1, e2, e3⟩ := hc j h1 h2
  exact ⟨(h14 j (by omega)).trans e1, (h86 j (by omega)).1.trans e2, (h86 j (by omega)).2.trans e3⟩
theorem RO_x {m : Nat} {la : Nat → Nat} {mv : Nat → Int32} {I J I' J' : zI} (h : RO m la mv I J) (h1 : I' 17 2 = I 17 2 ∧ I' 17 3 = I 17 3) (h2 : ∀ j, j < 12 → I' 18 j = I 18 j ∧ I' 19 j = I 19 j) (h4 : J' 72 35 = J 72 35) (h5 : ∀ j, j < 24 → J' 89 j = J 89 j) : RO m la mv I' J' := by
  obtain ⟨a1, a2, a3, a4, a5⟩ := h
  refine ⟨a1, h1.2.trans a2, h4.trans a3, h1.1.trans a4, fun i hi => ?_⟩
  obtain ⟨b1, b2, b3, b4, b5⟩ := a5 i hi
  exact ⟨b1, (h2 i (by omega)).1.trans b2, (h5 _ (by omega)).trans b3, (h2 i (by omega)).2.trans b4, (h5 _ (by omega)).trans b5⟩
theorem AG_x {m n : Nat} {dy wt wm mu : Nat → Nat} {I J I' J' : zI} (h : AG m n dy wt wm mu I J) (h0 : I' 20 4 = I 20 4) (h1 : ∀ j, j < 16 → I' 21 j = I 21 j ∧ I' 22 j = I 22 j ∧ I' 23 j = I 23 j ∧ I' 24 j = I 24 j) (h5 : J' 72 37 = J 72 37) (h6 : ∀ j, j < 64 → J' 90 j = J 90 j) : AG m n dy wt wm mu I' J' := by
  obtain ⟨a1, a2, a3, a4⟩ := h
  refine ⟨a1, h0.trans a2, h5.trans a3, fun i hi => ?_⟩
  obtain ⟨⟨b1, b2, b3, b4, b5⟩, b6⟩ := a4 i hi
  obtain ⟨x1, x2, x3, x4⟩ := h1 i (by omega)
  refine ⟨⟨x1.trans b1, (h6 _ (by omega)).trans b2, x2.trans b3, (h6 _ (by omega)).trans b4, b5⟩, fun hw => ?_⟩
  obtain ⟨⟨c1, c2, c3⟩, c4, c5, c6, c7⟩ := b6 hw
  exact ⟨⟨x3.trans c1, (h6 _ (by omega)).trans c2, c3⟩, x4.trans c4, (h6 _ (by omega)).trans c5, c6, c7⟩
theorem UM_x {m n : Nat} {wo wm : Nat → Nat} {I J I' J' : zI} (h : UM m n wo wm I J) (h1 : I' 32 7 = I 32 7) (h2 : ∀ j, j < 20 → I' 34 j = I 34 j ∧ I' 35 j = I 35 j) (h3 : J' 72 45 = J 72 45) (h4 : ∀ j, j < 10 → J' 94 j = J 94 j) : UM m n wo wm I' J' := by
  obtain ⟨a1, a2, a3, a4, a5⟩ := h
  refine ⟨a1, h1.trans a2, h3.trans a3, fun k hk => ?_, fun t ht => (h4 t ht).trans (a5 t ht)⟩
  obtain ⟨b1, b2, b3, b4⟩ := a4 k hk
  exact ⟨(h2 k (by omega)).1.trans b1, (h2 k (by omega)).2.trans b2, b3, b4⟩
def SEJ (m : Nat) (I J : zI) : Prop := m ≤ 12 ∧ I 32 6 = nI m ∧ J 72 43 = nI m ∧ ∀ k, k < m → I 33 k = J 93 k ∧ inb (J 93 k) 0 99 = true
def MXJ (I J : zI) : Prop := ∀ k, k < 4 → I 38 k = J 99 k ∧ inb (J 99 k) 0 99 = true
theorem SE_x {m : Nat} {I J I' J' : zI} (h : SEJ m I J) (h1 : I' 32 6 = I 32 6) (h2 : ∀ j, j < 12 → I' 33 j = I 33 j) (h3 : J' 72 43 = J 72 43) (h4 : ∀ j, j < 12 → J' 93 j = J 93 j) : SEJ m I' J' := by
  obtain ⟨a1, a2, a3, a4⟩ := h
  refine ⟨a1, h1.trans a2, h3.trans a3, fun k hk => ?_⟩
  rw [h2 k (by omega), h4 k (by omega)]
  exact a4 k hk
theorem PO_x {m : Nat} {I J I' J' : zI} (h : POJ m I J) (h1 : I' 32 8 = I 32 8) (h2 : ∀ j, j < 6 → I' 36 j = I 36 j ∧ I' 37 j = I 37 j) (h3 : J' 72 47 = J 72 47) (h4 : ∀ j, j < 6 → J' 95 j = J 95 j ∧ J' 96 j = J 96 j) : POJ m I' J' := by
  obtain ⟨a1, a2, a3, a4⟩ := h
  refine ⟨a1, h1.trans a2, h3.trans a3, fun k hk => ?_⟩
  rw [(h2 k (by omega)).1, (h2 k (by omega)).2, (h4 k (by omega)).1, (h4 k (by omega)).2]
  exact a4 k hk
theorem MX_x {I J I' J' : zI} (h : MXJ I J) (h2 : ∀ j, j < 4 → I' 38 j = I 38 j) (h4 : ∀ j, j < 4 → J' 99 j = J 99 j) : MXJ I' J' := by
  intro k hk
  rw [h2 k hk, h4 k hk]
  exact h k hk
/-- a world but its court, on both sides -/
def WRo (I J : zI) : Prop := (∃ m wd fr wh en o k, LW m wd fr wh en o k I J) ∧ (∃ m la mv, RO m la mv I J) ∧ (∃ m, SEJ m I J) ∧ (∃ m, POJ m I J) ∧ MXJ I J
/-- what of it speaks of tellers -/
def WRn (n : Nat) (I J : zI) : Prop := (∃ m dy wt wm mu, AG m n dy wt wm mu I J) ∧ ∃ m wo wm, UM m n wo wm I J
/-- its court -/
def WRc (n d l rr : Nat) (I J : zI) : Prop := CRJ n 7 8 I J ∧ RG n d (J 73) (J 76) (J 77) ∧ (l ≤ 150 ∧ J 73 2 = nI l ∧ ∀ k, k < 4 * l → I 26 k = J 78 k) ∧ I 7 12 = nI rr ∧ rr ≤ d ∧ d ≤ 9999 ∧ ∃ cd ca, MR (I 28) (I 29) rr cd ca (J 73)
/-- the cells of the class's world, of the reference's, that an image has -/
def cellC (a k : Nat) : Prop := (a = 7 ∧ 2 ≤ k ∧ k ≤ 12) ∨ (a = 8 ∧ k < 70) ∨ (a = 9 ∧ k = 8) ∨ (10 ≤ a ∧ a ≤ 13 ∧ k < 16) ∨ (a = 14 ∧ k < 400) ∨ (a = 17 ∧ (k = 2 ∨ k = 3)) ∨ ((a = 18 ∨ a = 19) ∧ k < 12) ∨ (a = 20 ∧ k = 4) ∨ (21 ≤ a ∧ a ≤ 24 ∧ k < 16) ∨ (a = 26 ∧ k < 600) ∨ (a = 28 ∧ k < 96) ∨ (a = 29 ∧ k < 960) ∨ (a = 32 ∧ (k = 6 ∨ k = 7 ∨ k = 8)) ∨ (a = 33 ∧ k < 12) ∨ ((a = 34 ∨ a = 35) ∧ k < 20) ∨ ((a = 36 ∨ a = 37) ∧ k < 6) ∨ (a = 38 ∧ k < 4)
def cellM (a k : Nat) : Prop := (a = 73 ∧ k < 148) ∨ (a = 72 ∧ (k = 6 ∨ k = 7 ∨ k = 8 ∨ k = 35 ∨ k = 37 ∨ k = 43 ∨ k = 45 ∨ k = 47)) ∨ ((a = 76 ∨ a = 77 ∨ a = 94) ∧ k < 10) ∨ ((a = 95 ∨ a = 96) ∧ k < 6) ∨ (a = 93 ∧ k < 12) ∨ (a = 99 ∧ k < 4) ∨ (a = 89 ∧ k < 24) ∨ (a = 90 ∧ k < 64) ∨ (a = 78 ∧ k < 600) ∨ (a = 81 ∧ k = 0) ∨ (82 ≤ a ∧ a ≤ 85 ∧ k < 16) ∨ ((a = 86 ∨ a = 87) ∧ k < 400)
theorem WRo_x {I J I' J' : zI} (h : WRo I J) (hC : ∀ a k, cellC a k → I' a k = I a k) (hM : ∀ a k, cellM a k → J' a k = J a k) : WRo I' J' := by
  obtain ⟨⟨m1, wd, fr, wh, en, o, k, h1⟩, ⟨m2, la, mv, h2⟩, ⟨m3, h3⟩, ⟨m4, h4⟩, h5⟩ := h
  refine ⟨⟨m1, wd, fr, wh, en, o, k, LW_x h1 (hC 9 8 ?_) (fun j hj => ⟨hC 10 j ?_, hC 11 j ?_, hC 12 j ?_, hC 13 j ?_⟩) (fun j hj => hC 14 j ?_) (hM 81 0 ?_) (fun j hj => ⟨hM 82 j ?_, hM 83 j ?_, hM 84 j ?_, hM 85 j ?_⟩) (fun j hj => ⟨hM 86 j ?_, hM 87 j ?_⟩)⟩, ⟨m2, la, mv, RO_x h2 ⟨hC 17 2 ?_, hC 17 3 ?_⟩ (fun j hj => ⟨hC 18 j ?_, hC 19 j ?_⟩) (hM 72 35 ?_) (fun j hj => hM 89 j ?_)⟩, ⟨m3, SE_x h3 (hC 32 6 ?_) (fun j hj => hC 33 j ?_) (hM 72 43 ?_) (fun j hj => hM 93 j ?_)⟩, ⟨m4, PO_x h4 (hC 32 8 ?_) (fun j hj => ⟨hC 36 j ?_, hC 37 j ?_⟩) (hM 72 47 ?_) (fun j hj => ⟨hM 95 j ?_, hM 96 j ?_⟩)⟩, MX_x h5 (fun j hj => hC 38 j ?_) (fun j hj => hM 99 j ?_)⟩ <;> first | (unfold cellC; omega) | (unfold cellM; omega)
theorem WRn_x {n : Nat} {I J I' J' : zI} (h : WRn n I J) (hC : ∀ a k, cellC a k → I' a k = I a k) (hM : ∀ a k, cellM a k → J' a k = J a k) : WRn n I' J' := by
  obtain ⟨⟨m1, dy, wt, wm, mu, h1⟩, m2, wo, wm2, h2⟩ := h
  refine ⟨⟨m1, dy, wt, wm, mu, AG_x h1 (hC 20 4 ?_) (fun j hj => ⟨hC 21 j ?_, hC 22 j ?_, hC 23 j ?_, hC 24 j ?_⟩) (hM 72 37 ?_) (fun j hj => hM 90 j ?_)⟩, m2, wo, wm2, UM_x h2 (hC 32 7 ?_) (fun j hj => ⟨hC 34 j ?_, hC 35 j ?_⟩) (hM 72 45 ?_) (fun j hj => hM 94 j ?_)⟩ <;> first | (unfold cellC; omega) | (unfold cellM; omega)
theorem WRc_x {n d l rr : Nat} {I J I' J' : zI} (h : WRc n d l rr I J) (hC : ∀ a k, cellC a k → I' a k = I a k) (hM : ∀ a k, cellM a k → J' a k = J a k) : WRc n d l rr I' J' := by
  obtain ⟨h1, h2, ⟨h3, h4, h5⟩, h6, h7, h8, cd, ca, h9⟩ := h
  have r73 : ∀ k, k < 148 → J' 73 k = J 73 k := fun k hk => hM 73 k (by unfold cellM; omega)
  refine ⟨CR_x h1 (fun k u1 u2 => hC 7 k (by unfold cellC; omega)) (fun k u => hC 8 k (by unfold cellC; omega)) (fun k u _ => r73 k (by omega)) (hM 72 6 (by unfold cellM; omega)) (hM 72 7 (by unfold cellM; omega)) (hM 72 8 (by unfold cellM; omega)) (fun t ht => hM 76 t (by unfold cellM; omega)) (fun t ht => hM 77 t (by unfold cellM; omega)), RG_x h2 h1.1 (fun k u _ => r73 k (by omega)) (fun t ht => hM 76 t (by unfold cellM; omega)) (fun t ht => hM 77 t (by unfold cellM; omega)), ⟨h3, (r73 2 (by omega)).trans h4, fun k hk => ?_⟩, (hC 7 12 (by unfold cellC; omega)).trans h6, h7, h8, cd, ca, MR_x h9 r73 (fun j hj => hC 28 j (by unfold cellC; omega)) (fun j hj => hC 29 j (by unfold cellC; omega))⟩
  rw [hC 26 k (by unfold cellC; omega), hM 78 k (by unfold cellM; omega)]
  exact h5 k hk
/-- the world whole -/
def WR (I J : zI) : Prop := ∃ n d l rr, WRc n d l rr I J ∧ WRn n I J ∧ WRo I J
theorem WR_x {I J I' J' : zI} (h : WR I J) (hC : ∀ a k, cellC a k → I' a k = I a k) (hM : ∀ a k, cellM a k → J' a k = J a k) : WR I' J' := by
  obtain ⟨n, d, l, rr, h1, h2, h3⟩ := h
  exact ⟨n, d, l, rr, WRc_x h1 hC hM, WRn_x h2 hC hM, WRo_x h3 hC hM⟩
/-- the reference's image as a memory of the reference -/
def imM (a k : Nat) : Nat := if a = 73 then k else if a = 72 then (if k = 6 then 148 else if k = 7 then 149 else if k = 8 then 150 else if k = 35 then 151 else if k = 37 then 152 else if k = 43 then 153 else if k = 45 then 154 else 155) else if a = 76 then 156 + 3 * k else if a = 77 then 157 + 3 * k else if a = 94 then 158 + 3 * k else if a = 95 then 186 + 2 * k else if a = 96 then 187 + 2 * k else if a = 93 then 198 + k else if a = 99 then 210 + k else if a = 89 then 214 + k else if a = 90 then 238 + k else if a = 78 then 302 + k else if a = 81 then 902 else if a = 82 then 903 + 4 * k else if a = 83 then 904 + 4 * k else if a = 84 then 905 + 4 * k else if a = 85 then 906 + 4 * k else if a = 86 then 967 + 2 * k else 968 + 2 * k
def imJ (J : zI) : zI := fun a k => J 100 (imM a k)
/-- the class's image as a memory of the class -/
def imI (I : zI) : zI := fun a => I (a + 200)
