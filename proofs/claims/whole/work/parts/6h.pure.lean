/-! PURE ROWS: the reference's next token -/
theorem bl_cases (v : Int32) : blC v = (cEq v 32 || cEq v 10) := rfl
theorem rd_0 (g : zg) {f : Nat → Int32} {L : Nat} (hL : L ≤ 400) (hby : ∀ k, k < L → ∃ b, b < 256 ∧ f k = nI b) (n : Nat) : ∀ (q : Nat) (M : zM), q + n = L → M.1 79 = f → M.1 72 13 = nI L → M.1 72 14 = nI q → (∀ k, k < 125 → M.1 80 k = wtb k) → ∃ J', zX (t_X12_reads g) 0 [some (.ref 72), none] [] M = some (none, (J', M.2)) ∧ RDF M.1 J' ∧ RTK f L (nxB f L q) J' := by
  induction n with
  | zero =>
    intro q M h1 h2 h3 h4 h5
    have e : q = L := by omega
    subst e
    have hr : rawV f q q = -1 := by unfold rawV; rw [if_neg (by omega)]
    refine ⟨(zu (zu (zu M.1 72 15 (nI q)) 72 16 1) 72 16 0), ?_, RDF_u (RDF_u (RDF_u (RDF_r _) (by omega)) (by omega)) (by omega), ?_⟩
    · have r2 := raw_s g (M := ((zu (zu M.1 72 15 (nI q)) 72 16 1), M.2)) hL (q := q) (by dsimp only; rw [zu_ne2 (by omega), zu_ne2 (by omega)]; exact h3) (by omega)
      dsimp only at r2
      rw [zu_ne (b := 79) (by omega), zu_ne (b := 79) (by omega), h2, hr] at r2
      rw [e_X12_reads_0, h4, raw_s g hL h3 (by omega), zbI_s, h2, hr, blC_m1.1, bif_f, h4, raw_s g hL h3 (by omega), zbI_s, h2, hr, blC_m1.2, bif_f, h4, r2, zbI_s, show cEq (-1 : Int32) (-1) = true from cEq_s rfl, bif_t]
    · rw [nxB_L]
      refine ⟨?_, fun _ => ⟨?_, zu_eq⟩, fun c => absurd c (by omega)⟩
      · rw [zu_ne2 (by omega), zu_ne2 (by omega), zu_eq]
      · rw [zu_ne2 (by omega), zu_ne2 (by omega), zu_ne2 (by omega)]
        exact h4
  | succ n ih =>
    intro q M h1 h2 h3 h4 h5
    have hq : q < L := by omega
    have hr : rawV f L q = f q := by unfold rawV; rw [if_pos (by omega)]
    obtain ⟨b, hb1, hb2⟩ := hby q hq
    obtain ⟨d1, d2, d3⟩ := ld_dec ⟨b, hb1⟩
    dsimp only at d1 d2 d3
    rw [← hb2] at d1 d2 d3
    cases hb : blC (f q)
    · have hb' := hb
      rw [bl_cases, Bool.or_eq_false_iff] at hb'
      rw [nxB_n hq hb]
      have r2 := raw_s g (M := ((zu (zu M.1 72 15 (nI q)) 72 16 1), M.2)) hL (q := q) (by dsimp only; rw [zu_ne2 (by omega), zu_ne2 (by omega)]; exact h3) (by omega)
      dsimp only at r2
      rw [zu_ne (b := 79) (by omega), zu_ne (b := 79) (by omega), h2, hr] at r2
      have st : zX (t_X12_reads g) 0 [some (.ref 72), none] [] M = (bif ltC (f q) then zX (t_X12_reads g) 95 [some (.ref 72), none] [] ((zu (zu (zu (zu M.1 72 15 (nI q)) 72 16 1) 72 14 (nI (q + 1))) 72 17 (f q)), M.2) else bif dgC (f q) then zX (t_X12_reads g) 171 [some (.ref 72), none] [] ((zu (zu (zu (zu (zu M.1 72 15 (nI q)) 72 16 1) 72 14 (nI (q + 1))) 72 17 (f q)) 72 17 (f q - 48)), M.2) else bif sgC (f q) then some (none, ((zu (zu (zu (zu (zu M.1 72 15 (nI q)) 72 16 1) 72 14 (nI (q + 1))) 72 17 (f q)) 72 16 4), M.2)) else some (none, ((zu (zu (zu (zu M.1 72 15 (nI q)) 72 16 1) 72 14 (nI (q + 1))) 72 17 (f q)), M.2))) := by
        rw [e_X12_reads_0, h4, raw_s g hL h3 (by omega), zbI_s, h2, hr, hb'.1, bif_f, h4, raw_s g hL h3 (by omega), zbI_s, h2, hr, hb'.2, bif_f, h4, r2, zbI_s, d3, bif_f]
        dsimp only
        rw [zu_ne2 (j := 14) (by omega), zu_ne2 (j := 14) (by omega), h4, nI_s1, letM_s, zbI_s, digM_s, zbI_s, sgM_s, zbI_s, cEq0_b01, cEq0_b01, cEq0_b01]
        cases ltC (f q) <;> cases dgC (f q) <;> cases sgC (f q) <;> rfl
      cases hl : ltC (f q)
      · cases hd : dgC (f q)
        · rw [hl, bif_f, hd, bif_f] at st
          have hen := enE_1 hq hl hd
          cases hs : sgC (f q)
          · rw [hs, bif_f] at st
            have kd : kdM f L q = 1 := by
              unfold kdM
              rw [hl, hd, hs]
              rfl
            refine ⟨_, st, RDF_u (RDF_u (RDF_u (RDF_u (RDF_r _) (by omega)) (by omega)) (by omega)) (by omega), ?_, fun c => absurd c (by omega), fun _ => ⟨?_, ?_, fun c => absurd kd c⟩⟩
            · rw [zu_ne2 (by omega), zu_ne2 (by omega), zu_ne2 (by omega), zu_eq]
            · rw [zu_ne2 (by omega), zu_eq, hen]
            · rw [zu_ne2 (by omega), zu_ne2 (by omega), zu_eq, kd]
          · rw [hs, bif_t] at st
            have kd : kdM f L q = 4 := by
              unfold kdM
              rw [hl, hd, hs]
              rfl
            have vl : vlM f L q = f q := by
              unfold vlM
              rw [hl, hd]
              rfl
            refine ⟨_, st, RDF_u (RDF_u (RDF_u (RDF_u (RDF_u (RDF_r _) (by omega)) (by omega)) (by omega)) (by omega)) (by omega), ?_, fun c => absurd c (by omega), fun _ => ⟨?_, ?_, fun _ => ?_⟩⟩
            · rw [zu_ne2 (by omega), zu_ne2 (by omega), zu_ne2 (by omega), zu_ne2 (by omega), zu_eq]
            · rw [zu_ne2 (by omega), zu_ne2 (by omega), zu_eq, hen]
            · rw [zu_eq, kd]
            · rw [zu_ne2 (by omega), zu_eq, vl]
        · rw [hl, bif_f, hd, bif_t] at st
          have hen := enE_dg (L := L) hl hd
          have hle := enE_le (f := f) hq
          obtain ⟨J', r1, r2, r3, r4, r5, r6⟩ := rd_171 g (f := f) (p := q) hL (L - (q + 1)) (q + 1) ((zu (zu (zu (zu (zu M.1 72 15 (nI q)) 72 16 1) 72 14 (nI (q + 1))) 72 17 (f q)) 72 17 (f q - 48)), M.2) (by omega) (by omega) (by dsimp only; rw [zu_ne (by omega), zu_ne (by omega), zu_ne (by omega), zu_ne (by omega), zu_ne (by omega)]; exact h2) (by dsimp only; rw [zu_ne2 (by omega), zu_ne2 (by omega), zu_ne2 (by omega), zu_ne2 (by omega), zu_ne2 (by omega)]; exact h3) (by dsimp only; rw [zu_ne2 (by omega), zu_ne2 (by omega), zu_eq]) (by dsimp only; rw [zu_ne2 (by omega), zu_ne2 (by omega), zu_ne2 (by omega), zu_ne2 (by omega), zu_eq]) (by
            intro k u1 u2
            rw [← hen] at u2
            obtain ⟨c, c1, c2⟩ := hby k (by omega)
            have dk : dgC (f k) = true := by
              by_cases e : k = q
              · rw [e]
                exact hd
              · rw [hen] at u2
                exact runE_at _ _ k (by omega) u2
            have y := (ld_dec ⟨c, c1⟩).2.1
            dsimp only at y
            rw [← c2] at y
            exact ⟨c, (y dk).2.1, (y dk).2.2, c2⟩) (by
            intro _
            dsimp only
            rw [zu_eq, show q + 1 - q = 0 + 1 from by omega, nuF_r]
            show f q - 48 = 0 * 10 + f (q + 0) - 48
            rw [Int32.zero_mul, Int32.zero_add, Nat.add_zero])
          dsimp only at r1 r2 r6
          rw [← hen] at r4 r5 r6
          rw [zu_ne2 (j := 16) (by omega), zu_ne2 (j := 16) (by omega), zu_ne2 (j := 16) (by omega), zu_eq] at r6
          refine ⟨J', st.trans r1, RDF_t (RDF_u (RDF_u (RDF_u (RDF_u (RDF_u (RDF_r _) (by omega)) (by omega)) (by omega)) (by omega)) (by omega)) r2, r3, fun c => absurd c (by omega), fun _ => ⟨r4, ?_⟩⟩
          by_cases hk : enE f L q - q ≤ 4
          · have kd : kdM f L q = 3 := by
              unfold kdM
              rw [hl, hd, decide_eq_true hk]
              rfl
            have vl : vlM f L q = nuF f (enE f L q - q) q 0 := by
              unfold vlM
              rw [hl, hd]
              rfl
            rw [kd, vl]
            exact ⟨(r5 hk).1, fun _ => (r5 hk).2⟩
          · have kd : kdM f L q = 1 := by
              unfold kdM
              rw [hl, hd, decide_eq_false hk]
              rfl
            rw [kd]
            exact ⟨r6 hk, fun c => absurd rfl c⟩
      · rw [hl, bif_t] at st
        have hd := (d1 hl).1
        have hen := enE_lt (L := L) hl hd
        have hle := enE_le (f := f) hq
        obtain ⟨J', r1, r2, r3, r4, r5⟩ := rd_95 g (f := f) (p := q) hL (L - (q + 1)) (q + 1) ((zu (zu (zu (zu M.1 72 15 (nI q)) 72 16 1) 72 14 (nI (q + 1))) 72 17 (f q)), M.2) (by omega) (by omega) (by dsimp only; rw [zu_ne (by omega), zu_ne (by omega), zu_ne (by omega), zu_ne (by omega)]; exact h2) (by dsimp only; rw [zu_ne2 (by omega), zu_ne2 (by omega), zu_ne2 (by omega), zu_ne2 (by omega)]; exact h3) (by dsimp only; rw [zu_ne2 (by omega), zu_eq]) (by dsimp only; rw [zu_ne2 (by omega), zu_ne2 (by omega), zu_ne2 (by omega), zu_eq]) (by
          intro k u1 u2
          rw [← hen] at u2
          obtain ⟨c, c1, c2⟩ := hby k (by omega)
          have dk : ltC (f k) = true := by
            by_cases e : k = q
            · rw [e]
              exact hl
            · rw [hen] at u2
              exact runE_at _ _ k (by omega) u2
          have y := (ld_dec ⟨c, c1⟩).1
          dsimp only at y
          rw [← c2] at y
          exact (y dk).2.2) (fun k hk => by dsimp only; rw [zu_ne1 (by omega), zu_ne1 (by omega), zu_ne1 (by omega), zu_ne1 (by omega)]; exact h5 k hk)
        dsimp only at r1 r2 r5
        rw [← hen] at r4 r5
        rw [zu_ne2 (j := 16) (by omega), zu_ne2 (j := 16) (by omega), zu_eq] at r5
        refine ⟨J', st.trans r1, RDF_t (RDF_u (RDF_u (RDF_u (RDF_u (RDF_r _) (by omega)) (by omega)) (by omega)) (by omega)) r2, r3, fun c => absurd c (by omega), fun _ => ⟨r4, ?_⟩⟩
        unfold kdM vlM
        rw [hl, bif_t, bif_t]
        cases hf : fiW f q (enE f L q - q) 0 rfW with
        | none =>
          rw [hf] at r5
          exact ⟨r5, fun c => absurd rfl c⟩
        | some k =>
          rw [hf] at r5
          exact ⟨r5.1, fun _ => r5.2⟩
    · rw [nxB_b hq hb]
      obtain ⟨J', r1, r2, r3⟩ := ih (q + 1) ((zu M.1 72 14 (nI (q + 1))), M.2) (by omega) (by dsimp only; rw [zu_ne (by omega)]; exact h2) (by dsimp only; rw [zu_ne2 (by omega)]; exact h3) (by dsimp only; exact zu_eq) (fun k hk => by dsimp only; rw [zu_ne1 (by omega)]; exact h5 k hk)
      refine ⟨J', ?_, RDF_t (RDF_u (RDF_r _) (by omega)) r2, r3⟩
      rw [e_X12_reads_0, h4, raw_s g hL h3 (by omega), zbI_s, h2, hr, h4, raw_s g hL h3 (by omega), zbI_s, h2, hr, h4, nI_s1]
      rw [bl_cases] at hb
      cases h32 : cEq (f q) 32
      · rw [h32, Bool.false_or] at hb
        rw [bif_f, hb, bif_t]
        exact r1
      · rw [bif_t]
        exact r1
