/-! PURE ROWS: set; what is kept beside the court; the tape -/
theorem k_set (g : zg) (a1 a2 a3 : Int32) {M : zM} (h : Inv g M.1) : OKc g (X_X11_set g [.ref 0, .int a1, .int a2, .int a3]) (X_X12_set g [.ref 72, .int a1, .int a2, .int a3]) M := by
  refine OK_nw h (fun n s nx dd ll rf N hN => ?_)
  obtain ⟨c1, _⟩ := hN
  obtain ⟨hn, hc, hm⟩ := PR_n c1.1
  have q1 := setC_s g a1 a2 a3 hn hc
  have q2 := setM_s g a1 a2 a3 hn hm
  cases hb : setOk (nI n) a1 a2 a3
  · rw [hb, bif_f] at q1 q2
    exact Or.inl ⟨_, q1, q2⟩
  · right
    rw [hb, bif_t] at q1 q2
    unfold setC at q1
    unfold setM at q2
    unfold setOk at hb
    have hcr := c1.1.1
    have hrg := c1.1.2.1
    refine ⟨_, _, _, n, q1, q2, Nat.le_refl n, ?_⟩
    by_cases h0 : a1 = 0
    · subst h0
      simp at hb
      simp only [if_pos]
      refine ⟨?_, ?_, fun b _ _ => zu_ne (by omega), zu_ne2 (by omega), zu_ne2 (by omega), fun b _ _ _ _ => by rw [zu_ne (by omega), zu_ne (by omega)], fun k _ _ _ _ => by rw [zu_ne1 (by omega), zu_ne2 (by omega)], fun k hk => by rw [zu_ne2 (by omega), zu_ne1 (by omega)]⟩
      · unfold CRJ
        rw [zu_upd, zu_ne (b := 8) (by omega), zu_upd (a := 73), zu_ne (b := 73) (by omega), zu_ne (b := 72) (by omega), zu_ne (b := 76) (by omega), zu_ne (b := 76) (by omega), zu_ne (b := 77) (by omega), zu_ne (b := 77) (by omega)]
        exact CR_x (CR_glass hcr a3) (fun _ _ _ => rfl) (fun _ _ => rfl) (fun _ _ _ => rfl) (zu_ne2 (by omega)) (zu_ne2 (by omega)) (zu_ne2 (by omega)) (fun _ _ => rfl) (fun _ _ => rfl)
      · rw [zu_upd (a := 73), zu_ne (b := 73) (by omega), zu_ne (b := 76) (by omega), zu_ne (b := 76) (by omega), zu_ne (b := 77) (by omega), zu_ne (b := 77) (by omega)]
        obtain ⟨q, hq, e⟩ := inb_ex (b := 99) (by omega) hb
        exact RG_up hrg (by omega) (fun _ => ⟨q, hq, by rw [e]⟩) (by omega) (by omega) (by omega) (by omega)
    · by_cases h1 : a1 = 1
      · subst h1
        simp only [if_neg h0, if_pos]
        refine ⟨?_, ?_, fun b _ _ => zu_ne (by omega), zu_ne2 (by omega), zu_ne2 (by omega), fun b _ _ _ _ => by rw [zu_ne (by omega), zu_ne (by omega)], fun k _ _ _ _ => by rw [zu_ne2 (by omega), zu_ne2 (by omega)], fun k hk => by rw [zu_ne1 (by omega), zu_ne1 (by omega)]⟩
        · unfold CRJ
          rw [zu_upd, zu_ne (b := 8) (by omega), zu_ne (b := 73) (by omega), zu_ne (b := 73) (by omega), zu_ne (b := 76) (by omega), zu_ne (b := 76) (by omega), zu_ne (b := 77) (by omega), zu_ne (b := 77) (by omega)]
          refine CR_x (CR_gusts hcr a3) (fun _ _ _ => rfl) (fun _ _ => rfl) (fun _ _ _ => rfl) ?_ ?_ ?_ (fun _ _ => rfl) (fun _ _ => rfl)
          · rw [zu_ne2 (by omega), zu_ne2 (by omega), upd1_ne (by omega)]
          · rw [zu_eq, upd1_eq]
          · rw [zu_ne2 (by omega), zu_ne2 (by omega), upd1_ne (by omega)]
        · rw [zu_ne (b := 73) (by omega), zu_ne (b := 73) (by omega), zu_ne (b := 76) (by omega), zu_ne (b := 76) (by omega), zu_ne (b := 77) (by omega), zu_ne (b := 77) (by omega)]
          exact hrg
      · by_cases h2 : a1 = 2
        · subst h2
          simp only [if_neg h0, if_neg h1, if_pos]
          refine ⟨?_, ?_, fun b _ _ => zu_ne (by omega), zu_ne2 (by omega), zu_ne2 (by omega), fun b _ _ _ _ => by rw [zu_ne (by omega), zu_ne (by omega)], fun k _ _ _ _ => by rw [zu_ne2 (by omega), zu_ne2 (by omega)], fun k hk => by rw [zu_ne1 (by omega), zu_ne1 (by omega)]⟩
          · unfold CRJ
            rw [zu_upd, zu_ne (b := 8) (by omega), zu_ne (b := 73) (by omega), zu_ne (b := 73) (by omega), zu_ne (b := 76) (by omega), zu_ne (b := 76) (by omega), zu_ne (b := 77) (by omega), zu_ne (b := 77) (by omega)]
            refine CR_x (CR_falls hcr a3) (fun _ _ _ => rfl) (fun _ _ => rfl) (fun _ _ _ => rfl) ?_ ?_ ?_ (fun _ _ => rfl) (fun _ _ => rfl)
            · rw [zu_ne2 (by omega), zu_ne2 (by omega), upd1_ne (by omega)]
            · rw [zu_ne2 (by omega), zu_ne2 (by omega), upd1_ne (by omega)]
            · rw [zu_eq, upd1_eq]
          · rw [zu_ne (b := 73) (by omega), zu_ne (b := 73) (by omega), zu_ne (b := 76) (by omega), zu_ne (b := 76) (by omega), zu_ne (b := 77) (by omega), zu_ne (b := 77) (by omega)]
            exact hrg
        · by_cases h3 : a1 = 3
          · subst h3
            simp at hb
            obtain ⟨t, ht, rfl⟩ := hsB_ex hn hb.1
            obtain ⟨q, hq, e⟩ := inb_ex (b := 9) (by omega) hb.2
            simp only [if_neg h0, if_neg h1, if_neg h2, if_pos]
            rw [zx_nI (by omega)]
            refine ⟨?_, ?_, fun b _ _ => zu_ne (by omega), zu_ne1 (by omega), zu_ne1 (by omega), fun b _ _ _ _ => by rw [zu_ne (by omega), zu_ne (by omega)], fun k _ _ _ _ => by rw [zu_ne1 (by omega), zu_ne2 (by omega)], fun k hk => by rw [zu_ne1 (by omega), zu_ne1 (by omega)]⟩
            · unfold CRJ
              rw [zu_ne (b := 7) (by omega), zu_upd (a := 8), zu_ne (b := 73) (by omega), zu_ne (b := 73) (by omega), zu_ne (b := 72) (by omega), zu_ne (b := 76) (by omega), zu_ne (b := 76) (by omega), zu_upd (a := 77), zu_ne (b := 77) (by omega)]
              exact CR_x (CR_fear hcr ht a3) (fun _ _ _ => rfl) (fun _ _ => rfl) (fun _ _ _ => rfl) (zu_ne2 (by omega)) (zu_ne2 (by omega)) (zu_ne2 (by omega)) (fun _ _ => rfl) (fun _ _ => rfl)
            · rw [zu_ne (b := 73) (by omega), zu_ne (b := 73) (by omega), zu_ne (b := 76) (by omega), zu_ne (b := 76) (by omega), zu_upd (a := 77), zu_ne (b := 77) (by omega)]
              obtain ⟨r0, r3, r4, rt⟩ := hrg
              refine ⟨r0, r3, r4, fun t' ht' => ?_⟩
              obtain ⟨x1, x2, x3, x4, x5⟩ := rt t' ht'
              refine ⟨x1, x2, x3, x4, ?_⟩
              by_cases et : t' = t
              · subst et
                rw [upd1_eq]
                exact ⟨q, hq, e⟩
              · rw [upd1_ne et]
                exact x5
          · have h4 : a1 = 4 := by
              simp [h0, h1, h2, h3] at hb
              exact hb.1.1
            subst h4
            simp at hb
            obtain ⟨t, ht, rfl⟩ := hsB_ex hn hb.1
            simp only [if_neg h0, if_neg h1, if_neg h2, if_neg h3]
            rw [zx_nI (by omega)]
            refine ⟨?_, ?_, fun b _ _ => zu_ne (by omega), zu_ne1 (by omega), zu_ne1 (by omega), fun b _ _ _ _ => by rw [zu_ne (by omega), zu_ne (by omega)], fun k _ _ _ _ => by rw [zu_ne1 (by omega), zu_ne2 (by omega)], fun k hk => by rw [zu_ne2 (by omega), zu_ne1 (by omega)]⟩
            · unfold CRJ
              rw [zu_ne (b := 7) (by omega), zu_upd (a := 8), zu_upd (a := 73), zu_ne (b := 73) (by omega), zu_ne (b := 72) (by omega), zu_ne (b := 76) (by omega), zu_ne (b := 76) (by omega), zu_ne (b := 77) (by omega), zu_ne (b := 77) (by omega)]
              have c := CR_cell hcr (t := t) (k := 4) (v := a3) (w := a3) ht (by omega) (by omega) (by simp)
              rw [show 10 * 4 - 12 + t = 28 + t from by omega] at c
              exact CR_x c (fun _ _ _ => rfl) (fun _ _ => rfl) (fun _ _ _ => rfl) (zu_ne2 (by omega)) (zu_ne2 (by omega)) (zu_ne2 (by omega)) (fun _ _ => rfl) (fun _ _ => rfl)
            · rw [zu_upd (a := 73), zu_ne (b := 73) (by omega), zu_ne (b := 76) (by omega), zu_ne (b := 76) (by omega), zu_ne (b := 77) (by omega), zu_ne (b := 77) (by omega)]
              exact RG_up hrg (by omega) (by omega) (by omega) (by omega) (fun _ _ _ => hb.2) (by omega)
/-- what is kept beside the court -/
theorem OK_sd {g : zg} {XC XM : zM → Option (Option Value × zM)} {M : zM} (h : Inv g M.1) (hs : ∀ (n : Nat) (N : zM), n ≤ 10 → M.1 7 2 = nI n → N.1 72 6 = nI n → (∃ m, SEJ m M.1 N.1) → (∃ m, POJ m M.1 N.1) → MXJ M.1 N.1 → (∃ m wo wm, UM m n wo wm M.1 N.1) → ∃ v I' J', XC M = some (some (.int v), (I', M.2)) ∧ XM N = some (some (.int v), (J', N.2)) ∧ (∀ a, a < 32 ∨ 38 < a → I' a = M.1 a) ∧ (∀ a, a < 93 → a ≠ 72 → J' a = N.1 a) ∧ (∀ a, 100 ≤ a → J' a = N.1 a) ∧ (∀ k, k ≠ 0 → k ≠ 43 → k ≠ 45 → k ≠ 47 → J' 72 k = N.1 72 k) ∧ (∃ m, SEJ m I' J') ∧ (∃ m, POJ m I' J') ∧ MXJ I' J' ∧ ∃ m wo wm, UM m n wo wm I' J') : OKc g XC XM M := by
  refine OK_st h (fun n s nx dd ll rf N hN => ?_)
  obtain ⟨c1, c2, ⟨⟨m1, dy, wt, wm, mu, ha⟩, hu⟩, ⟨⟨m3, wd, fr, wh, en, o, k, hl⟩, ⟨m4, la, mv, ho⟩, hse, hpo, hmx⟩⟩ := hN
  obtain ⟨hn, hc, hm⟩ := PR_n c1.1
  obtain ⟨v, I', J', q1, q2, q3, q4, q4', q5, q6, q7, q8, q9⟩ := hs n N hn hc hm hse hpo hmx hu
  have e9 := q3 9 (by omega)
  have e81 := q4 81 (by omega) (by omega)
  refine ⟨v, I', J', q1, q2, ⟨fun a ha => q3 a (by omega), by rw [q3 40 (by omega)]⟩, ⟨fun a ha => ?_, fun k hk => q5 k (by omega) (by omega) (by omega) (by omega)⟩, n, s, nx, dd, ll, rf, CU_of c1 (q3 7 (by omega)) (q3 8 (by omega)) (q3 26 (by omega)) (q3 28 (by omega)) (q3 29 (by omega)) (q5 5 (by omega) (by omega) (by omega) (by omega)) (q5 6 (by omega) (by omega) (by omega) (by omega)) (q5 7 (by omega) (by omega) (by omega) (by omega)) (q5 8 (by omega) (by omega) (by omega) (by omega)) (q4 73 (by omega) (by omega)) (q4 76 (by omega) (by omega)) (q4 77 (by omega) (by omega)) (q4 78 (by omega) (by omega)), SP_I c2 (q3 42 (by omega)) (fun a u1 u2 => q3 a (by omega)) (q3 28 (by omega)) (q3 29 (by omega)) (q4 74 (by omega) (by omega)) (q4 76 (by omega) (by omega)) (q4 77 (by omega) (by omega)) (q5 3 (by omega) (by omega) (by omega) (by omega)) (q5 6 (by omega) (by omega) (by omega) (by omega)) (q5 7 (by omega) (by omega) (by omega) (by omega)) (q5 8 (by omega) (by omega) (by omega) (by omega)), ⟨⟨m1, dy, wt, wm, mu, AG_of ha (q3 20 (by omega)) (q3 21 (by omega)) (q3 22 (by omega)) (q3 23 (by omega)) (q3 24 (by omega)) (q5 37 (by omega) (by omega) (by omega) (by omega)) (q4 90 (by omega) (by omega))⟩, q9⟩, ⟨m3, wd, fr, wh, en, o, k, LW_of hl (by rw [e9]) (q3 10 (by omega)) (q3 11 (by omega)) (q3 12 (by omega)) (q3 13 (by omega)) (q3 14 (by omega)) (by rw [e81]) (q4 82 (by omega) (by omega)) (q4 83 (by omega) (by omega)) (q4 84 (by omega) (by omega)) (q4 85 (by omega) (by omega)) (q4 86 (by omega) (by omega)) (q4 87 (by omega) (by omega))⟩, ⟨m4, la, mv, RO_of ho (q3 17 (by omega)) (q3 18 (by omega)) (q3 19 (by omega)) (q5 35 (by omega) (by omega) (by omega) (by omega)) (q4 89 (by omega) (by omega))⟩, q6, q7, q8⟩
  rcases ha with u | u | u | u
  · exact q4 a (by omega) (by omega)
  · exact q4 a (by omega) (by omega)
  · exact q4 a (by omega) (by omega)
  · exact q4' a u
