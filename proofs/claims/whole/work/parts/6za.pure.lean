/-! PURE ROWS: a text of rounds, of the agenda, under what holds between calls -/
theorem k_textR (g : zg) {M : zM} (h : Inv g M.1) : OKc g (X_X11_text g [.ref 0, .int 1]) (X_X12_text g [.ref 72, .int 1]) M := by
  refine txt_OK h (fun N hN => ?_)
  obtain ⟨⟨n, s, nx, dd, ll, rf, c1, c2, c3, ⟨⟨m1, wd, fr, wh, en, o, k, hl⟩, ⟨m2, la, mv, ho⟩, _⟩⟩, ⟨L, ⟨⟨tL, t15, t13, t2⟩, tb, tw⟩⟩, _⟩ := id h
  obtain ⟨ok, v, I1, J1, q1, q2, q3, q4, q5, q6, q7⟩ := readR_al g (L := L) (M := (tc0 M.1, M.2)) (N := ((zu (tx0 N.1) 72 26 0), N.2)) tL (tc0_6 (I := M.1)) (by dsimp only; rw [tc0_1 (by omega)]; exact t15) (fun k hk => by dsimp only; rw [tc0_ne (by omega)]; exact tb k hk) (fun k hk => by dsimp only; rw [tc0_ne (by omega), zu_ne (by omega), tx0_ne (by omega), hN 79 (by omega) (by omega)]; exact t2 k hk) (by dsimp only; rw [zu_ne2 (by omega), tx0_72 (by omega), hN 72 (by omega) (by omega)]; exact t13) (by dsimp only; rw [zu_ne2 (by omega)]; exact tx0_14.1) (fun k hk => by dsimp only; rw [zu_ne (by omega), tx0_ne (by omega), hN 80 (by omega) (by omega)]; exact tw k hk)
  dsimp only at q1 q2 q3 q4 q5
  have hr : X_X12_readsText g [.ref 72, .int 1] (tx0 N.1, N.2) = some (some (.int v), (J1, N.2)) := by
    rw [x_X12_readsText_0, show cEq (1 : Int32) 1 = true from rfl]
    simp only [bif_t]
    rw [zbV_zbI, q2, zbI_s]
  have cl : X_X11_text g [.ref 0, .int 1] M = (bif ok then (zbV (X_X7_take g [.ref 17, .ref 64] (I1, M.2)) (fun M2 => (zbV (X_X8_forget g [.ref 42] M2) (fun M3 => (zbI (X_X9_cut g [.ref 1, .int 0] M3) (fun x4 M4 => some (some (.int (M2.1 17 3)), M4))))))) else (zbI (X_X9_cut g [.ref 1, .int 0] (I1, M.2)) (fun x6 M6 => some (some (.int (-1)), M6)))) := by
    rw [x_X11_text_0, x_X9_clearFault_0, zbV_s, show cEq0 (1 : Int32) = false from rfl, bif_f, e_X11_text_55, show cEq (1 : Int32) 1 = true from rfl, bif_t]
    unfold tc0 at q1
    rw [q1, zbI_s, cEq0_b01]
    cases ok
    · rw [Bool.not_false, bif_t, e_X11_text_109, show cEq (1 : Int32) 2 = false from rfl, bif_f]
      rfl
    · rfl
  have i15 : I1 1 5 = nI L := by rw [q4 5 (by omega) (by omega) (by omega), tc0_1 (by omega)]; exact t15
  have eI : ∀ a, a ≠ 1 → a ≠ 3 → a ≠ 4 → a ≠ 5 → (a < 56 ∨ 71 < a) → I1 a = M.1 a := fun a u1 u2 u3 u4 u5 => by rw [q3 a u1 u2 u3 u4 (by omega) (by omega) (by omega), tc0_ne u1]
  have e72 : ∀ k, k ≠ 0 → k ≠ 33 → k ≠ 34 → k ≠ 14 → k ≠ 27 → k ≠ 28 → k ≠ 26 → k ≠ 15 → k ≠ 16 → k ≠ 17 → k ≠ 31 → k ≠ 32 → J1 72 k = N.1 72 k := fun k u1 u2 u3 u4 u5 u6 u7 u8 u9 u10 u11 u12 => by rw [q5.2.2 k u4 u8 u9 u10 u11 u12, zu_ne2 u7, tx0_72 (by omega)]
  have ea : ∀ b, b ≠ 72 → b ≠ 89 → J1 b = N.1 b := fun b u1 u2 => by rw [q5.1 b u1 u2, zu_ne u1, tx0_ne u1]
  have e89 : ∀ k, k < 24 → J1 89 k = N.1 89 k := fun k hk => by rw [q5.2.1 k hk, zu_ne (by omega), tx0_ne (by omega)]
  cases ok
  · obtain ⟨hv, hfl⟩ := q6 rfl
    subst hv
    rw [bif_f, cut0_s g (M := (I1, M.2)) tL i15, zbI_s] at cl
    dsimp only at cl
    refine ⟨-1, _, _, cl, txtM_f g (by decide) hr, TXQ_f h hN (fun a u1 u2 u3 u4 u5 => by rw [zu_ne u1, eI a u1 u2 u3 u4 u5]) zu_eq (fun a ha => by rw [zu_ne (by omega), zu_ne (by omega), zu_ne (by omega), ea a (by omega) (by omega)]) ?_ (fun k hk => by rw [zu_ne2 (by omega), zu_ne2 (by omega), zu_ne2 (by omega), e72 k (by omega) (by omega) (by omega) (by omega) (by omega) (by omega) (by omega) (by omega) (by omega) (by omega) (by omega) (by omega)]) zu_eq ⟨?_, ?_⟩⟩
    · intro a k hc
      unfold cellM at hc
      by_cases e : a = 72
      · subst e
        rw [zu_ne2 (by omega), zu_ne2 (by omega), zu_ne2 (by omega), e72 k (by omega) (by omega) (by omega) (by omega) (by omega) (by omega) (by omega) (by omega) (by omega) (by omega) (by omega) (by omega)]
      · rw [zu_ne e, zu_ne e, zu_ne e]
        by_cases e2 : a = 89
        · subst e2
          exact e89 k (by omega)
        · rw [ea a e e2]
    · rw [zu_ne2 (by omega), zu_ne2 (by omega), zu_ne2 (by omega), zu_eq]
      exact hfl.1
    · rw [zu_ne2 (by omega), zu_ne2 (by omega), zu_eq]
      exact hfl.2
  · obtain ⟨q8, n', la', mv', hv, hrs⟩ := q7 rfl
    subst hv
    have hn' := hrs.1
    obtain ⟨J2, r1, r2, r3, r4, r5, r6⟩ := takR_7 g hn' (2 * n') 0 ((zu J1 72 13 0), N.2) (by omega)
    dsimp only at r1 r2 r3 r6
    have tk : X_X12_takesOther g [.ref 72, .int 1, .int (nI n')] ((zu J1 72 13 0), N.2) = some (none, (J2, N.2)) := by
      rw [x_X12_takesOther_0, show cEq (1 : Int32) 1 = true from rfl, bif_t]
      exact r1
    have hro : RO n' la' mv' (tkR I1) J2 := tkR_RO hrs r4 (fun x hx => by rw [r6 x, if_pos (by omega), zu_ne1 (by omega)])
    rw [bif_t, takR_s, zbV_s, x_X8_forget_0, zbV_s, cut0_s g (M := ((zu (tkR I1) 42 2 0), M.2)) (L := L) tL (by dsimp only; rw [zu_ne1 (by omega), tkR_ne (by omega)]; exact i15), zbI_s] at cl
    dsimp only at cl
    rw [hro.2.1] at cl
    have f72 : ∀ k, k ≠ 3 → k ≠ 35 → k ≠ 13 → k ≠ 0 → k ≠ 33 → k ≠ 34 → k ≠ 14 → k ≠ 27 → k ≠ 28 → k ≠ 26 → k ≠ 15 → k ≠ 16 → k ≠ 17 → k ≠ 31 → k ≠ 32 → J2 72 k = N.1 72 k := fun k v1 v2 v3 u1 u2 u3 u4 u5 u6 u7 u8 u9 u10 u11 u12 => by rw [r3 k v1 v2, zu_ne2 v3, e72 k u1 u2 u3 u4 u5 u6 u7 u8 u9 u10 u11 u12]
    have fa : ∀ b, b ≠ 72 → b ≠ 89 → J2 b = N.1 b := fun b u1 u2 => by rw [r2 b u1 u2, zu_ne u1, ea b u1 u2]
    have fI : ∀ a, a ≠ 1 → a ≠ 3 → a ≠ 4 → a ≠ 5 → (a < 56 ∨ 71 < a) → (a < 17 ∨ 19 < a) → a ≠ 42 → (zu (zu (tkR I1) 42 2 0) 1 5 0) a = M.1 a := fun a u1 u2 u3 u4 u5 u6 u7 => by rw [zu_ne u1, zu_ne u7, tkR_ne u6, eI a u1 u2 u3 u4 u5]
    refine ⟨nI n', _, J2, cl, txtM_o g (by omega) (by decide) rfl hr tk, ⟨fun a ha => fI a (by omega) (by omega) (by omega) (by omega) (by omega) (by omega) (by omega), zu_eq⟩, ⟨fun a ha => fa a (by omega) (by omega), fun k hk => f72 k (by omega) (by omega) (by omega) (by omega) (by omega) (by omega) (by omega) (by omega) (by omega) (by omega) (by omega) (by omega) (by omega) (by omega) (by omega), ?_⟩, ⟨?_, ?_⟩, Or.inr ⟨?_, ?_, r5⟩, ⟨m1, wd, fr, wh, en, o, k, LW_of hl (by rw [fI 9 (by omega) (by omega) (by omega) (by omega) (by omega) (by omega) (by omega)]) (fI 10 (by omega) (by omega) (by omega) (by omega) (by omega) (by omega) (by omega)) (fI 11 (by omega) (by omega) (by omega) (by omega) (by omega) (by omega) (by omega)) (fI 12 (by omega) (by omega) (by omega) (by omega) (by omega) (by omega) (by omega)) (fI 13 (by omega) (by omega) (by omega) (by omega) (by omega) (by omega) (by omega)) (fI 14 (by omega) (by omega) (by omega) (by omega) (by omega) (by omega) (by omega)) (by rw [fa 81 (by omega) (by omega), hN 81 (by omega) (by omega)]) ((fa 82 (by omega) (by omega)).trans (hN 82 (by omega) (by omega))) ((fa 83 (by omega) (by omega)).trans (hN 83 (by omega) (by omega))) ((fa 84 (by omega) (by omega)).trans (hN 84 (by omega) (by omega))) ((fa 85 (by omega) (by omega)).trans (hN 85 (by omega) (by omega))) ((fa 86 (by omega) (by omega)).trans (hN 86 (by omega) (by omega))) ((fa 87 (by omega) (by omega)).trans (hN 87 (by omega) (by omega)))⟩, ⟨n', la', mv', RO_of hro ?_ ?_ ?_ rfl rfl⟩, ?_⟩
    · rw [r3 13 (by omega) (by omega), zu_eq]
    · rw [zu_ne2 (by omega), zu_ne1 (by omega), tkR_ne (by omega), r3 33 (by omega) (by omega), zu_ne2 (by omega), q5.2.2 33 (by omega) (by omega) (by omega) (by omega) (by omega) (by omega), zu_ne2 (by omega), tx0_14.2.1]
      exact q8.1
    · rw [zu_ne2 (by omega), zu_ne1 (by omega), tkR_ne (by omega), r3 34 (by omega) (by omega), zu_ne2 (by omega), q5.2.2 34 (by omega) (by omega) (by omega) (by omega) (by omega) (by omega), zu_ne2 (by omega), tx0_14.2.2.1]
      exact q8.2
    · rw [zu_ne1 (by omega), zu_ne2 (by omega), tkR_ne (by omega), eI 42 (by omega) (by omega) (by omega) (by omega) (by omega)]
    · rw [zu_ne1 (by omega), zu_eq]
    · rw [zu_ne (by omega), zu_ne (by omega)]
    · rw [zu_ne (by omega), zu_ne (by omega)]
    · rw [zu_ne (by omega), zu_ne (by omega)]
    · rintro n' _ _ ⟨m, dy, wt, wm, mu, q⟩
      exact ⟨m, dy, wt, wm, mu, AG_of q (fI 20 (by omega) (by omega) (by omega) (by omega) (by omega) (by omega) (by omega)) (fI 21 (by omega) (by omega) (by omega) (by omega) (by omega) (by omega) (by omega)) (fI 22 (by omega) (by omega) (by omega) (by omega) (by omega) (by omega) (by omega)) (fI 23 (by omega) (by omega) (by omega) (by omega) (by omega) (by omega) (by omega)) (fI 24 (by omega) (by omega) (by omega) (by omega) (by omega) (by omega) (by omega)) (f72 37 (by omega) (by omega) (by omega) (by omega) (by omega) (by omega) (by omega) (by omega) (by omega) (by omega) (by omega) (by omega) (by omega) (by omega) (by omega)) (fa 90 (by omega) (by omega))⟩
