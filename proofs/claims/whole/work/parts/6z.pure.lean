/-! PURE ROWS: behind a text -/
theorem Inv_txt {g : zg} {I0 I' : zI} (h : Inv g I0) (hA : ∀ a, a = 2 ∨ (6 ≤ a ∧ a ≤ 8) ∨ (25 ≤ a ∧ a ≤ 41) ∨ (43 ≤ a ∧ a ≤ 55) ∨ (73 ≤ a ∧ a ≤ 80) ∨ 93 ≤ a → I' a = I0 a) (h72 : ∀ k, k = 5 ∨ k = 6 ∨ k = 7 ∨ k = 8 ∨ k = 43 ∨ k = 45 ∨ k = 47 ∨ k = 54 → I' 72 k = I0 72 k) (h15 : I' 1 5 = 0) (h13 : I' 72 13 = 0) (hf : I' 1 6 = I' 72 33 ∧ I' 1 7 = I' 72 34) (hs : (I' 42 = I0 42 ∧ I' 72 3 = I0 72 3) ∨ (I' 42 1 = I0 42 1 ∧ I' 42 2 = 0 ∧ I' 72 3 = 0)) (hl : ∃ m wd fr wh en o k, LW m wd fr wh en o k I' I') (ho : ∃ m la mv, RO m la mv I' I') (ha : ∀ n, I0 7 2 = nI n → n ≤ 10 → (∃ m dy wt wm mu, AG m n dy wt wm mu I0 I0) → ∃ m dy wt wm mu, AG m n dy wt wm mu I' I') : Inv g I' := by
  obtain ⟨⟨n, s, nx, dd, ll, rf, c1, c2, ⟨a1, m2, wo, wm, u1⟩, ⟨_, _, ⟨m3, e3⟩, ⟨m4, e4⟩, e5⟩⟩, ⟨L, ht⟩, b3, b4, b5⟩ := h
  obtain ⟨hn, hc, hm⟩ := PR_n c1.1
  have r7 := hA 7 (by omega)
  have r8 := hA 8 (by omega)
  have r32 := hA 32 (by omega)
  have cu : CU n (dd 0) (ll 0) (rf 0) I' I' := CU_of c1 r7 r8 (hA 26 (by omega)) (hA 28 (by omega)) (hA 29 (by omega)) (h72 5 (by omega)) (h72 6 (by omega)) (h72 7 (by omega)) (h72 8 (by omega)) (hA 73 (by omega)) (hA 76 (by omega)) (hA 77 (by omega)) (hA 78 (by omega))
  have wn : WRn n I' I' := ⟨ha n hc hn a1, m2, wo, wm, UM_x u1 (by rw [r32]) (fun j _ => ⟨by rw [hA 34 (by omega)], by rw [hA 35 (by omega)]⟩) (h72 45 (by omega)) (fun j _ => by rw [hA 94 (by omega)])⟩
  have wo : WRo I' I' := ⟨hl, ho, ⟨m3, SE_x e3 (by rw [r32]) (fun j _ => by rw [hA 33 (by omega)]) (h72 43 (by omega)) (fun j _ => by rw [hA 93 (by omega)])⟩, ⟨m4, PO_x e4 (by rw [r32]) (fun j _ => ⟨by rw [hA 36 (by omega)], by rw [hA 37 (by omega)]⟩) (h72 47 (by omega)) (fun j _ => ⟨by rw [hA 95 (by omega)], by rw [hA 96 (by omega)]⟩)⟩, MX_x e5 (fun j _ => by rw [hA 38 (by omega)]) (fun j _ => by rw [hA 99 (by omega)])⟩
  refine ⟨?_, ⟨0, TPW_end ht (by omega) (h15.trans rfl) (h13.trans rfl) (hA 2 (by omega)) (hA 79 (by omega)) (hA 80 (by omega))⟩, hf, by rw [hA 40 (by omega)]; exact b4, IMG_of b5 (h72 54 (by omega)) (fun a u1 _ => hA a (by omega)) (hA 100 (by omega))⟩
  rcases hs with ⟨s1, s2⟩ | ⟨s1, s2, s3⟩
  · exact ⟨n, s, nx, dd, ll, rf, cu, SP_I c2 s1 (fun a u1 u2 => hA a (by omega)) (hA 28 (by omega)) (hA 29 (by omega)) (hA 74 (by omega)) (hA 76 (by omega)) (hA 77 (by omega)) s2 (h72 6 (by omega)) (h72 7 (by omega)) (h72 8 (by omega)), wn, wo⟩
  · exact ⟨n, 0, nx, dd, ll, rf, cu, SP_new c2 s1 s2 s3, wn, wo⟩
/-- what a text does to both -/
def TXQ (I0 I' J J' : zI) : Prop := ((∀ a, a = 2 ∨ (6 ≤ a ∧ a ≤ 8) ∨ (25 ≤ a ∧ a ≤ 41) ∨ (43 ≤ a ∧ a ≤ 55) ∨ 72 ≤ a → I' a = I0 a) ∧ I' 1 5 = 0) ∧ ((∀ a, a < 72 ∨ (73 ≤ a ∧ a ≤ 80) ∨ 93 ≤ a → J' a = J a) ∧ (∀ k, k = 5 ∨ k = 6 ∨ k = 7 ∨ k = 8 ∨ k = 43 ∨ k = 45 ∨ k = 47 ∨ k = 54 → J' 72 k = J 72 k) ∧ J' 72 13 = 0) ∧ (I' 1 6 = J' 72 33 ∧ I' 1 7 = J' 72 34) ∧ ((I' 42 = I0 42 ∧ J' 72 3 = J 72 3) ∨ (I' 42 1 = I0 42 1 ∧ I' 42 2 = 0 ∧ J' 72 3 = 0)) ∧ (∃ m wd fr wh en o k, LW m wd fr wh en o k I' J') ∧ (∃ m la mv, RO m la mv I' J') ∧ (∀ n, I0 7 2 = nI n → n ≤ 10 → (∃ m dy wt wm mu, AG m n dy wt wm mu I0 J) → ∃ m dy wt wm mu, AG m n dy wt wm mu I' J')
theorem txt_OK {g : zg} {XC XM : zM → Option (Option Value × zM)} {M : zM} (h : Inv g M.1) (hs : ∀ N : zM, (∀ a, 72 ≤ a → a ≤ 100 → N.1 a = M.1 a) → ∃ v I' J', XC M = some (some (.int v), (I', M.2)) ∧ XM N = some (some (.int v), (J', N.2)) ∧ TXQ M.1 I' N.1 J') : OKc g XC XM M := by
  obtain ⟨v, I', J', q1, q2, ⟨p1, p2⟩, ⟨p3, p4, p5⟩, p6, p7, ⟨m1, wd, fr, wh, en, o, k, p8⟩, ⟨m2, la, mv, p9⟩, p10⟩ := two_step (XC := XC) (XM := XM) (M := M) (P := fun J => ∀ a, 72 ≤ a → a ≤ 100 → J a = M.1 a) (Q := fun I' J J' => TXQ M.1 I' J J') hs (fun _ _ _ => rfl) (fun I' J' hq a u1 u2 => hq.1.1 a (by omega))
  have rI : ∀ a, a < 72 → J' a = I' a := fun a ha => p3 a (by omega)
  have r1 := rI 1 (by omega)
  have r72 := p1 72 (by omega)
  refine ⟨v, I', M.2, J', q1, q2, Inv_txt h (fun a ha => (p3 a (by omega)).trans (p1 a (by omega))) (fun k hk => (p4 k hk).trans (by rw [r72])) (by rw [r1]; exact p2) p5 (by rw [r1]; exact p6) ?_ ⟨m1, wd, fr, wh, en, o, k, LW_of p8 (by rw [rI 9 (by omega)]) (rI 10 (by omega)) (rI 11 (by omega)) (rI 12 (by omega)) (rI 13 (by omega)) (rI 14 (by omega)) rfl rfl rfl rfl rfl rfl rfl⟩ ⟨m2, la, mv, RO_of p9 (rI 17 (by omega)) (rI 18 (by omega)) (rI 19 (by omega)) rfl rfl⟩ ?_⟩
  · rw [rI 42 (by omega)]
    rw [r72] at p7
    exact p7
  · rintro n hn1 hn2 ⟨m, dy, wt, wm, mu, hag⟩
    have hag' : AG m n dy wt wm mu M.1 I' := AG_of hag rfl rfl rfl rfl rfl (by rw [r72]) (p1 90 (by omega))
    obtain ⟨m', dy', wt', wm', mu', q⟩ := p10 n hn1 hn2 ⟨m, dy, wt, wm, mu, hag'⟩
    exact ⟨m', dy', wt', wm', mu', AG_of q (rI 20 (by omega)) (rI 21 (by omega)) (rI 22 (by omega)) (rI 23 (by omega)) (rI 24 (by omega)) rfl rfl⟩
theorem zbV_zbI {μ ρ : Type} {o : Option (Option Value × μ)} {F : μ → Option (Option Value × μ)} {k : Int32 → μ → Option ρ} : zbV o (fun M1 => zbI (F M1) k) = zbI (zbV o F) k := by
  cases o with
  | none => rfl
  | some p =>
    obtain ⟨v, M⟩ := p
    cases v with
    | none => rfl
    | some v => rfl
/-- the reference begins -/
def tx0 (J : zI) : zI := zu (zu (zu (zu (zu (zu J 72 0 0) 72 33 0) 72 34 (-1)) 72 14 0) 72 27 0) 72 28 0
theorem tx0_ne {J : zI} {a : Nat} (h : a ≠ 72) : tx0 J a = J a := by
  unfold tx0
  rw [zu_ne h, zu_ne h, zu_ne h, zu_ne h, zu_ne h, zu_ne h]
theorem tx0_72 {J : zI} {k : Nat} (h : k ≠ 0 ∧ k ≠ 33 ∧ k ≠ 34 ∧ k ≠ 14 ∧ k ≠ 27 ∧ k ≠ 28) : tx0 J 72 k = J 72 k := by
  unfold tx0
  rw [zu_ne2 (by omega), zu_ne2 (by omega), zu_ne2 (by omega), zu_ne2 (by omega), zu_ne2 (by omega), zu_ne2 (by omega)]
theorem tx0_14 {J : zI} : tx0 J 72 14 = 0 ∧ tx0 J 72 33 = 0 ∧ tx0 J 72 34 = -1 ∧ tx0 J 72 27 = 0 ∧ tx0 J 72 28 = 0 := by
  unfold tx0
  refine ⟨?_, ?_, ?_, ?_, zu_eq⟩
  · rw [zu_ne2 (by omega), zu_ne2 (by omega), zu_eq]
  · rw [zu_ne2 (by omega), zu_ne2 (by omega), zu_ne2 (by omega), zu_ne2 (by omega), zu_eq]
  · rw [zu_ne2 (by omega), zu_ne2 (by omega), zu_ne2 (by omega), zu_eq]
  · rw [zu_ne2 (by omega), zu_eq]
theorem txtM_b (g : zg) {a : Int32} {N : zM} (h : inb a 0 2 = false) : X_X12_text g [.ref 72, .int a] N = some (some (.int (-1)), ((zu (tx0 N.1) 72 13 0), N.2)) := by
  rw [x_X12_text_0, isIn_s, zbI_s, h, show cEq0 (b01 false) = true from rfl, bif_t]
  rfl
theorem txtM_f (g : zg) {a : Int32} {N : zM} {J1 : zI} (h : inb a 0 2 = true) (hr : X_X12_readsText g [.ref 72, .int a] (tx0 N.1, N.2) = some (some (.int (-1)), (J1, N.2))) : X_X12_text g [.ref 72, .int a] N = some (some (.int (-1)), ((zu (zu (zu J1 72 33 (J1 72 31)) 72 34 (J1 72 32)) 72 13 0), N.2)) := by
  unfold tx0 at hr
  rw [x_X12_text_0, isIn_s, zbI_s, h, show cEq0 (b01 true) = false from rfl, bif_f, hr, zbI_s, show cEq (-1 : Int32) (-1) = true from cEq_s rfl, bif_t, bif_t]
theorem txtM_o (g : zg) {a : Int32} {v : Nat} {N : zM} {J1 J2 : zI} (hv : v < 10000) (h : inb a 0 2 = true) (h0 : cEq0 a = false) (hr : X_X12_readsText g [.ref 72, .int a] (tx0 N.1, N.2) = some (some (.int (nI v)), (J1, N.2))) (ht : X_X12_takesOther g [.ref 72, .int a, .int (nI v)] ((zu J1 72 13 0), N.2) = some (none, (J2, N.2))) : X_X12_text g [.ref 72, .int a] N = some (some (.int (nI v)), (J2, N.2)) := by
  unfold tx0 at hr
  rw [x_X12_text_0, isIn_s, zbI_s, h, show cEq0 (b01 true) = false from rfl, bif_f, hr, zbI_s, nI_nm1 hv, bif_f, bif_f, h0, bif_f, ht, zbV_s]
theorem txtM_l (g : zg) {v : Nat} {N : zM} {J1 J2 : zI} (hv : v < 10000) (hr : X_X12_readsText g [.ref 72, .int 0] (tx0 N.1, N.2) = some (some (.int (nI v)), (J1, N.2))) (ht : X_X12_takesLaw g [.ref 72, .int (nI v)] ((zu J1 72 13 0), N.2) = some (none, (J2, N.2))) : X_X12_text g [.ref 72, .int 0] N = some (some (.int (nI v)), (J2, N.2)) := by
  unfold tx0 at hr
  rw [x_X12_text_0, isIn_s, zbI_s, show inb 0 0 2 = true from by decide, show cEq0 (b01 true) = false from rfl, bif_f, hr, zbI_s, nI_nm1 hv, bif_f, bif_f, show cEq0 (0 : Int32) = true from rfl, bif_t, ht, zbV_s]
/-- the class begins, and ends -/
def tc0 (I : zI) : zI := zu (zu I 1 6 0) 1 7 (-1)
theorem cut0_s (g : zg) {L : Nat} {M : zM} (hL : L ≤ 400) (h : M.1 1 5 = nI L) : X_X9_cut g [.ref 1, .int 0] M = some (some (.int 1), ((zu M.1 1 5 0), M.2)) := by
  rw [x_X9_cut_0, h, show cLt0 (0 : Int32) = false from rfl, bif_f, show (0 : Int32) = nI 0 from rfl, cGt_nI (by omega) (by omega), decide_eq_false (by omega), bif_f]
theorem tc0_ne {I : zI} {a : Nat} (h : a ≠ 1) : tc0 I a = I a := by
  unfold tc0
  rw [zu_ne h, zu_ne h]
theorem tc0_1 {I : zI} {k : Nat} (h : k ≠ 6 ∧ k ≠ 7) : tc0 I 1 k = I 1 k := by
  unfold tc0
  rw [zu_ne2 (by omega), zu_ne2 (by omega)]
theorem tc0_6 {I : zI} : tc0 I 1 6 = 0 ∧ tc0 I 1 7 = -1 := by
  unfold tc0
  exact ⟨by rw [zu_ne2 (by omega), zu_eq], zu_eq⟩
/-- nothing is taken -/
theorem TXQ_f {g : zg} {I0 I' J J' : zI} (h : Inv g I0) (hN : ∀ a, 72 ≤ a → a ≤ 100 → J a = I0 a) (hI : ∀ a, a ≠ 1 → a ≠ 3 → a ≠ 4 → a ≠ 5 → (a < 56 ∨ 71 < a) → I' a = I0 a) (h15 : I' 1 5 = 0) (hJ : ∀ a, a < 72 ∨ (73 ≤ a ∧ a ≤ 80) ∨ 93 ≤ a → J' a = J a) (hM : ∀ a k, cellM a k → J' a k = J a k) (h72 : ∀ k, k = 3 ∨ k = 5 ∨ k = 54 → J' 72 k = J 72 k) (h13 : J' 72 13 = 0) (hf : I' 1 6 = J' 72 33 ∧ I' 1 7 = J' 72 34) : TXQ I0 I' J J' := by
  obtain ⟨⟨n, s, nx, dd, ll, rf, c1, c2, c3, ⟨⟨m1, wd, fr, wh, en, o, k, hl⟩, ⟨m2, la, mv, ho⟩, _⟩⟩, _⟩ := id h
  have eM : ∀ a k, cellM a k → J' a k = I0 a k := fun a k hc => (hM a k hc).trans (by rw [hN a (by unfold cellM at hc; omega) (by unfold cellM at hc; omega)])
  have eI : ∀ a, 6 ≤ a → a ≤ 55 → I' a = I0 a := fun a u1 u2 => hI a (by omega) (by omega) (by omega) (by omega) (by omega)
  refine ⟨⟨fun a ha => hI a (by omega) (by omega) (by omega) (by omega) (by omega), h15⟩, ⟨hJ, fun k hk => ?_, h13⟩, hf, Or.inl ⟨eI 42 (by omega) (by omega), h72 3 (by omega)⟩, ⟨m1, wd, fr, wh, en, o, k, LW_x hl (by rw [eI 9 (by omega) (by omega)]) (fun j hj => ⟨by rw [eI 10 (by omega) (by omega)], by rw [eI 11 (by omega) (by omega)], by rw [eI 12 (by omega) (by omega)], by rw [eI 13 (by omega) (by omega)]⟩) (fun j hj => by rw [eI 14 (by omega) (by omega)]) (eM 81 0 (by unfold cellM; omega)) (fun j hj => ⟨eM 82 j (by unfold cellM; omega), eM 83 j (by unfold cellM; omega), eM 84 j (by unfold cellM; omega), eM 85 j (by unfold cellM; omega)⟩) (fun j hj => ⟨eM 86 j (by unfold cellM; omega), eM 87 j (by unfold cellM; omega)⟩)⟩, ⟨m2, la, mv, RO_x ho (by rw [eI 17 (by omega) (by omega)]; exact ⟨rfl, rfl⟩) (fun j hj => ⟨by rw [eI 18 (by omega) (by omega)], by rw [eI 19 (by omega) (by omega)]⟩) (eM 72 35 (by unfold cellM; omega)) (fun j hj => eM 89 j (by unfold cellM; omega))⟩, ?_⟩
  · by_cases e : k = 5 ∨ k = 54
    · exact h72 k (by omega)
    · exact hM 72 k (by unfold cellM; omega)
  · rintro n' _ _ ⟨m, dy, wt, wm, mu, q⟩
    exact ⟨m, dy, wt, wm, mu, AG_x q (by rw [eI 20 (by omega) (by omega)]) (fun j hj => ⟨by rw [eI 21 (by omega) (by omega)], by rw [eI 22 (by omega) (by omega)], by rw [eI 23 (by omega) (by omega)], by rw [eI 24 (by omega) (by omega)]⟩) (hM 72 37 (by unfold cellM; omega)) (fun j hj => hM 90 j (by unfold cellM; omega))⟩
/-- kinds that are not -/
theorem k_textB (g : zg) {a : Int32} (hb : inb a 0 2 = false) {M : zM} (h : Inv g M.1) : OKc g (X_X11_text g [.ref 0, .int a]) (X_X12_text g [.ref 72, .int a]) M := by
  refine txt_OK h (fun N hN => ?_)
  obtain ⟨_, ⟨L, ht⟩, _⟩ := id h
  have n0 : ¬ a = 0 := fun e => by rw [e] at hb; exact absurd hb (by decide)
  have n1 : ¬ a = 1 := fun e => by rw [e] at hb; exact absurd hb (by decide)
  have n2 : ¬ a = 2 := fun e => by rw [e] at hb; exact absurd hb (by decide)
  have e72 : ∀ k, k ≠ 0 → k ≠ 33 → k ≠ 34 → k ≠ 14 → k ≠ 27 → k ≠ 28 → k ≠ 13 → (zu (tx0 N.1) 72 13 0) 72 k = N.1 72 k := fun k u1 u2 u3 u4 u5 u6 u7 => by rw [zu_ne2 (by omega), tx0_72 (by omega)]
  have ea : ∀ b, b ≠ 72 → (zu (tx0 N.1) 72 13 0) b = N.1 b := fun b hb => by rw [zu_ne (by omega), tx0_ne (by omega)]
  refine ⟨-1, (zu (tc0 M.1) 1 5 0), (zu (tx0 N.1) 72 13 0), ?_, txtM_b g hb, TXQ_f h hN (fun b _ _ _ _ _ => by rw [zu_ne (by omega), tc0_ne (by omega)]) zu_eq (fun b hb => ea b (by omega)) ?_ (fun k hk => e72 k (by omega) (by omega) (by omega) (by omega) (by omega) (by omega) (by omega)) zu_eq ⟨?_, ?_⟩⟩
  · rw [x_X11_text_0, x_X9_clearFault_0, zbV_s, cEq0_n n0, bif_f, e_X11_text_55, cEq_n n1, bif_f, e_X11_text_109, cEq_n n2, bif_f]
    have q := cut0_s g (M := (tc0 M.1, M.2)) ht.1.1 (by dsimp only; rw [tc0_1 (by omega)]; exact ht.1.2.1)
    unfold tc0 at q ⊢
    rw [q, zbI_s]
  · intro b k hc
    by_cases e : b = 72
    · subst e
      exact e72 k (by unfold cellM at hc; omega) (by unfold cellM at hc; omega) (by unfold cellM at hc; omega) (by unfold cellM at hc; omega) (by unfold cellM at hc; omega) (by unfold cellM at hc; omega) (by unfold cellM at hc; omega)
    · rw [ea b e]
  · rw [zu_ne2 (by omega), zu_ne2 (by omega), tc0_6.1, tx0_14.2.1]
  · rw [zu_ne2 (by omega), zu_ne2 (by omega), tc0_6.2, tx0_14.2.2.1]
