/-! PURE ROWS: what is wanted next, on both sides -/
def PFc (I I' : zI) : Prop := (∀ a, a ≠ 1 → I' a = I a) ∧ ∀ k, k ≠ 4 → k ≠ 6 → k ≠ 7 → I' 1 k = I 1 k
def PFm (J J' : zI) : Prop := (∀ a, a ≠ 72 → J' a = J a) ∧ ∀ k, k ≠ 14 → k ≠ 15 → k ≠ 16 → k ≠ 17 → k ≠ 31 → k ≠ 32 → J' 72 k = J 72 k
/-- the same fault on both sides -/
def FL (I J : zI) : Prop := I 1 6 = J 72 31 ∧ I 1 7 = J 72 32
theorem PFc_r (I : zI) : PFc I I := ⟨fun _ _ => rfl, fun _ _ _ _ => rfl⟩
theorem PFm_r (J : zI) : PFm J J := ⟨fun _ _ => rfl, fun _ _ _ _ _ _ _ => rfl⟩
theorem PFc_t {I I' I'' : zI} (h : PFc I I') (h' : PFc I' I'') : PFc I I'' := ⟨fun a ha => (h'.1 a ha).trans (h.1 a ha), fun k u1 u2 u3 => (h'.2 k u1 u2 u3).trans (h.2 k u1 u2 u3)⟩
theorem PFm_t {J J' J'' : zI} (h : PFm J J') (h' : PFm J' J'') : PFm J J'' := ⟨fun a ha => (h'.1 a ha).trans (h.1 a ha), fun k u1 u2 u3 u4 u5 u6 => (h'.2 k u1 u2 u3 u4 u5 u6).trans (h.2 k u1 u2 u3 u4 u5 u6)⟩
theorem PFc_u {I : zI} {k : Nat} {v : Int32} (hk : k = 4 ∨ k = 6 ∨ k = 7) : PFc I (zu I 1 k v) := ⟨fun a ha => zu_ne ha, fun i u1 u2 u3 => zu_ne2 (by omega)⟩
theorem PFm_u {J : zI} {k : Nat} {v : Int32} (hk : k = 31 ∨ k = 32) : PFm J (zu J 72 k v) := ⟨fun a ha => zu_ne ha, fun i u1 u2 u3 u4 u5 u6 => zu_ne2 (by omega)⟩
theorem PFm_d {J J' : zI} (h : RDF J J') : PFm J J' := ⟨h.1, fun k u1 u2 u3 u4 _ _ => h.2 k u1 u2 u3 u4⟩
theorem fl_al {I J : zI} (a p : Int32) : PFc I (zu (zu I 1 6 a) 1 7 p) ∧ PFm J (zu (zu J 72 31 a) 72 32 p) ∧ FL (zu (zu I 1 6 a) 1 7 p) (zu (zu J 72 31 a) 72 32 p) := by
  refine ⟨PFc_t (PFc_u (by omega)) (PFc_u (by omega)), PFm_t (PFm_u (by omega)) (PFm_u (by omega)), ?_, ?_⟩
  · rw [zu_ne2 (by omega), zu_eq, zu_ne2 (by omega), zu_eq]
  · rw [zu_eq, zu_eq]
theorem expC_t (g : zg) {j : Nat} {f : Nat → Int32} {L c m : Nat} {M : zM} {J : zI} (hj : j < 3) (h : TKS j f L c m M.1 J) {t : Int32} (ht : ¬ t = 0) (e : M.1 3 c = t) : c < m ∧ X_X9_expect g [.ref 1, .int t] M = some (some (.int 1), ((zu M.1 1 4 (nI (c + 1))), M.2)) := by
  obtain ⟨s1, s2⟩ := stepC_s g hj h (by rw [e]; exact ht)
  obtain ⟨a1, ⟨b1, b2, b3, _⟩, _⟩ := h
  refine ⟨s1, ?_⟩
  rw [x_X9_expect_0, b3, zb_nI (by omega), decide_eq_true (by omega), bif_t, zx_nI (by omega), cEq_s e, bif_t, s2, zbV_s]
theorem expC_f (g : zg) {j : Nat} {f : Nat → Int32} {L c m : Nat} {M : zM} {J : zI} (hj : j < 3) (h : TKS j f L c m M.1 J) {t : Int32} (e : ¬ M.1 3 c = t) : X_X9_expect g [.ref 1, .int t] M = some (some (.int 0), ((zu (zu M.1 1 6 1) 1 7 (nI (plS f L 0 c))), M.2)) := by
  have r := refuC_s g hj h 1
  obtain ⟨a1, ⟨b1, b2, b3, _⟩, _⟩ := h
  rw [x_X9_expect_0, b3, zb_nI (by omega), decide_eq_true (by omega), bif_t, zx_nI (by omega), cEq_n e, bif_f, r, zbI_s]
  rfl
/-- a sign that is wanted -/
theorem mark_al (g : zg) {j : Nat} {f : Nat → Int32} {L c m : Nat} {M N : zM} (hj : j < 3) (h : TKS j f L c m M.1 N.1) {s : Int32} (hs : sgC s = true) : ∃ ok I' J', X_X9_expect g [.ref 1, .int s] M = some (some (.int (b01 ok)), (I', M.2)) ∧ X_X12_readMark g [.ref 72, .int s] N = some (some (.int (bif ok then 0 else -1)), (J', N.2)) ∧ PFc M.1 I' ∧ PFm N.1 J' ∧ (ok = false → FL I' J') ∧ (ok = true → TKS j f L (c + 1) m I' J') := by
  by_cases e : M.1 3 c = s
  · obtain ⟨s1, s2⟩ := expC_t g hj h (sg_nz hs) e
    obtain ⟨J', r1, r2, r3⟩ := readsM_s g h s1
    refine ⟨true, _, J', s2, ?_, PFc_u (by omega), PFm_d r2, fun c => absurd c (by decide), fun _ => r3⟩
    rw [x_X12_readMark_0, isSignM_s g hj h hs, zbI_s, cEq_s e, show cEq0 (b01 true) = false from rfl, bif_f, r1, zbV_s]
    rfl
  · obtain ⟨f1, f2, f3⟩ := fl_al (I := M.1) (J := N.1) 1 (nI (plS f L 0 c))
    refine ⟨false, _, _, expC_f g hj h e, ?_, f1, f2, fun _ => f3, fun c => absurd c (by decide)⟩
    rw [x_X12_readMark_0, isSignM_s g hj h hs, zbI_s, cEq_n e, show cEq0 (b01 false) = true from rfl, bif_t, errsM_s g hj h, zbI_s]
    rfl
/-- a number that is wanted -/
theorem num_al (g : zg) {j : Nat} {f : Nat → Int32} {L c m : Nat} {M N : zM} (hj : j < 3) (h : TKS j f L c m M.1 N.1) (lo hi : Int32) : ∃ v I' J', X_X9_expectNumber g [.ref 1, .int lo, .int hi] M = some (some (.int v), (I', M.2)) ∧ X_X12_readNumber g [.ref 72, .int lo, .int hi] N = some (some (.int v), (J', N.2)) ∧ PFc M.1 I' ∧ PFm N.1 J' ∧ ((v = -1 ∧ FL I' J') ∨ ∃ w, w < 10000 ∧ v = nI w ∧ inb (nI w) lo hi = true ∧ TKS j f L (c + 1) m I' J') := by
  obtain ⟨t1, t2⟩ := TKR_num hj (TKS_r hj h).1
  have hb := h.2.1
  obtain ⟨b1, b2, b3, _⟩ := hb
  cases e : cEq (M.1 3 c) 1
  · rw [e] at t1
    obtain ⟨f1, f2, f3⟩ := fl_al (I := M.1) (J := N.1) 1 (nI (plS f L 0 c))
    refine ⟨-1, _, _, ?_, ?_, f1, f2, Or.inl ⟨rfl, f3⟩⟩
    · rw [x_X9_expectNumber_0, b3, zb_nI (by omega), decide_eq_true (by omega), bif_t, bif_t, zx_nI (by omega), e, bif_f, refuC_s g hj h, zbI_s]
    · rw [x_X12_readNumber_0, t1, bif_f, errsM_s g hj h, zbI_s]
  · rw [e] at t1
    obtain ⟨w, w1, w2, w3⟩ := t2 e
    have hT : M.1 3 c = 1 := by
      by_cases q : M.1 3 c = 1
      · exact q
      · rw [cEq_n q] at e
        exact absurd e (by decide)
    obtain ⟨s1, s2⟩ := stepC_s g hj h (by rw [hT]; decide)
    cases hi' : inb (nI w) lo hi
    · obtain ⟨f1, f2, f3⟩ := fl_al (I := M.1) (J := N.1) 2 (nI (plS f L 0 c))
      refine ⟨-1, _, _, ?_, ?_, f1, f2, Or.inl ⟨rfl, f3⟩⟩
      · rw [x_X9_expectNumber_0, b3, zb_nI (by omega), decide_eq_true (by omega), bif_t, bif_t, zx_nI (by omega), e, bif_t, w2, refuC_s g hj h, zbI_s]
        unfold inb at hi'
        cases h1 : cLt (nI w) lo
        · rw [bif_f]
          cases h2 : cGt (nI w) hi
          · rw [h1, h2] at hi'
            exact absurd hi' (by decide)
          · rw [bif_t]
        · rw [bif_t]
      · rw [x_X12_readNumber_0, t1, bif_t, w3, isIn_s, zbI_s, hi', show cEq0 (b01 false) = true from rfl, bif_t, errsM_s g hj h, zbI_s]
    · obtain ⟨J', r1, r2, r3⟩ := readsM_s g h s1
      refine ⟨nI w, _, J', ?_, ?_, PFc_u (by omega), PFm_d r2, Or.inr ⟨w, w1, rfl, hi', r3⟩⟩
      · rw [x_X9_expectNumber_0, b3, zb_nI (by omega), decide_eq_true (by omega), bif_t, bif_t, zx_nI (by omega), e, bif_t, w2, s2, zbV_s]
        unfold inb at hi'
        cases h1 : cLt (nI w) lo
        · rw [bif_f]
          cases h2 : cGt (nI w) hi
          · rw [bif_f]
          · rw [h1, h2] at hi'
            exact absurd hi' (by decide)
        · rw [h1] at hi'
          exact absurd hi' (by simp)
      · rw [x_X12_readNumber_0, t1, bif_t, w3, isIn_s, zbI_s, hi', show cEq0 (b01 true) = false from rfl, bif_f, r1, zbV_s, w3]
/-- a word that is wanted, then a number -/
theorem told_al (g : zg) {j : Nat} {f : Nat → Int32} {L c m i : Nat} {M N : zM} (hj : j < 3) (h : TKS j f L c m M.1 N.1) (hi : i < wcn j) {t a : Int32} (ht : t = 128 + nI i) (ha : a = nI (wmp j i)) (lo hh : Int32) : (¬ M.1 3 c = t ∧ ∃ I' J', X_X9_expect g [.ref 1, .int t] M = some (some (.int 0), (I', M.2)) ∧ X_X12_readTold g [.ref 72, .int a, .int lo, .int hh] N = some (some (.int (-1)), (J', N.2)) ∧ PFc M.1 I' ∧ PFm N.1 J' ∧ FL I' J') ∨ (M.1 3 c = t ∧ ∃ I0 v I' J', X_X9_expect g [.ref 1, .int t] M = some (some (.int 1), (I0, M.2)) ∧ X_X9_expectNumber g [.ref 1, .int lo, .int hh] (I0, M.2) = some (some (.int v), (I', M.2)) ∧ X_X12_readTold g [.ref 72, .int a, .int lo, .int hh] N = some (some (.int v), (J', N.2)) ∧ PFc M.1 I' ∧ PFm N.1 J' ∧ ((v = -1 ∧ FL I' J') ∨ ∃ w, w < 10000 ∧ v = nI w ∧ inb (nI w) lo hh = true ∧ TKS j f L (c + 2) m I' J')) := by
  subst ht
  by_cases e : M.1 3 c = 128 + nI i
  · right
    refine ⟨e, ?_⟩
    obtain ⟨s1, s2⟩ := expC_t g hj h (wd_nz hj hi) e
    obtain ⟨J0, r1, r2, r3⟩ := readsM_s g h s1
    obtain ⟨v, I', J', q1, q2, q3, q4, q5⟩ := num_al g (M := ((zu M.1 1 4 (nI (c + 1))), M.2)) (N := (J0, N.2)) hj r3 lo hh
    refine ⟨_, v, I', J', s2, q1, ?_, PFc_t (PFc_u (by omega)) q3, PFm_t (PFm_d r2) q4, q5⟩
    rw [x_X12_readTold_0, isWordM_s g hj h hi ha, zbI_s, cEq_s e, show cEq0 (b01 true) = false from rfl, bif_f, r1, zbV_s, q2, zbI_s]
  · left
    obtain ⟨f1, f2, f3⟩ := fl_al (I := M.1) (J := N.1) 1 (nI (plS f L 0 c))
    refine ⟨e, _, _, expC_f g hj h e, ?_, f1, f2, f3⟩
    rw [x_X12_readTold_0, isWordM_s g hj h hi ha, zbI_s, cEq_n e, show cEq0 (b01 false) = true from rfl, bif_t, errsM_s g hj h, zbI_s]
