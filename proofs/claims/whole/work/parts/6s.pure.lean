/-! PURE ROWS: the agenda read on both sides -/
theorem agread_al (g : zg) {f : Nat → Int32} {L m t : Nat} (ht : t ≤ 10) (k : Nat) : ∀ (n c : Nat) (dy wt wm mu : Nat → Nat) (M N : zM), n + k = 16 → N.1 72 6 = nI t → TKS 2 f L c m M.1 N.1 → AS n t dy wt wm mu M.1 N.1 → ∃ ok v I' J', zX (t_X0_read g) 13 [some (.ref 67), some (.ref 1), some (.int (nI t)), some (.int (nI n))] [] M = some (some (.int (b01 ok)), (I', M.2)) ∧ zX (t_X12_readAgenda g) 2 [some (.ref 72), some (.int (nI n))] [] N = some (some (.int v), (J', N.2)) ∧ AFc M.1 I' ∧ AFm N.1 J' ∧ (ok = false → v = -1 ∧ FL I' J') ∧ (ok = true → (I' 1 6 = 0 ∧ I' 1 7 = -1) ∧ ∃ n' dy' wt' wm' mu', v = nI n' ∧ AS n' t dy' wt' wm' mu' I' J') := by
  have stp : ∀ (n c : Nat) (dy wt wm mu : Nat → Nat) (M N : zM), n ≤ 16 → N.1 72 6 = nI t → TKS 2 f L c m M.1 N.1 → AS n t dy wt wm mu M.1 N.1 → (∃ ok v I' J', zX (t_X0_read g) 13 [some (.ref 67), some (.ref 1), some (.int (nI t)), some (.int (nI n))] [] M = some (some (.int (b01 ok)), (I', M.2)) ∧ zX (t_X12_readAgenda g) 2 [some (.ref 72), some (.int (nI n))] [] N = some (some (.int v), (J', N.2)) ∧ AFc M.1 I' ∧ AFm N.1 J' ∧ (ok = false → v = -1 ∧ FL I' J') ∧ (ok = true → (I' 1 6 = 0 ∧ I' 1 7 = -1) ∧ ∃ n' dy' wt' wm' mu', v = nI n' ∧ AS n' t dy' wt' wm' mu' I' J')) ∨ (n < 16 ∧ ∃ I' J' c' dy' wt' wm' mu', zX (t_X0_read g) 13 [some (.ref 67), some (.ref 1), some (.int (nI t)), some (.int (nI n))] [] M = zX (t_X0_read g) 13 [some (.ref 67), some (.ref 1), some (.int (nI t)), some (.int (nI (n + 1)))] [] (I', M.2) ∧ zX (t_X12_readAgenda g) 2 [some (.ref 72), some (.int (nI n))] [] N = zX (t_X12_readAgenda g) 2 [some (.ref 72), some (.int (nI (n + 1)))] [] (J', N.2) ∧ AFc M.1 I' ∧ AFm N.1 J' ∧ TKS 2 f L c' m I' J' ∧ AS (n + 1) t dy' wt' wm' mu' I' J') := by
    intro n c dy wt wm mu M N hn h6 h hs
    have c18 : zX (t_X0_read g) 13 [some (.ref 67), some (.ref 1), some (.int (nI t)), some (.int (nI n))] [] M = (bif cEq0 (M.1 3 c) then some (some (.int 1), M) else (zbI (X_X0_readLine g [.ref 67, .ref 1, .int (nI t)] M) (fun x2 M2 => (bif cEq0 x2 then some (some (.int 0), M2) else zX (t_X0_read g) 13 [some (.ref 67), some (.ref 1), some (.int (nI t)), some (.int (nI (n + 1)))] [] M2)))) := by
      rw [e_X0_read_13, show cGt (nI n) 16 = false from by rw [show (16 : Int32) = nI 16 from rfl, cGt_nI (by omega) (by omega), decide_eq_false (by omega)], bif_f, tokenC_s g h, zbI_s, nI_s1]
    by_cases hT : M.1 3 c = 0
    · left
      rw [cEq0_s hT, bif_t] at c18
      have iw := isWordM_s g (j := 2) (by omega) h (i := 6) (by decide) (a := 19) (by decide)
      rw [hT, show cEq (0 : Int32) (128 + nI 6) = false from by decide] at iw
      refine ⟨true, nI n, M.1, N.1, c18, ?_, ⟨fun _ _ _ => rfl, fun _ _ _ _ => rfl⟩, ⟨fun _ _ _ => rfl, fun _ _ => rfl, fun _ _ _ _ _ _ _ => rfl⟩, fun c => absurd c (by decide), fun _ => ⟨h.1.2.2, n, dy, wt, wm, mu, rfl, hs⟩⟩
      rw [e_X12_readAgenda_2, iw, zbI_s, show cEq0 (b01 false) = true from rfl, bif_t, TKR_end (j := 2) (by omega) (TKS_r (by omega) h).1, cEq0_s hT, bif_t]
    · rw [cEq0_n hT, bif_f] at c18
      obtain ⟨ok, I', J', q1, q2, q3, q4, q5, q6⟩ := agl_al g h hs ht h6 hT
      rw [q1, zbI_s, cEq0_b01] at c18
      cases ok
      · left
        exact ⟨false, -1, I', J', c18, q2, q3, q4, fun _ => ⟨rfl, q5 rfl⟩, fun c => absurd c (by decide)⟩
      · right
        obtain ⟨y1, c', dy', wt', wm', mu', y2, y3⟩ := q6 rfl
        exact ⟨y1, I', J', c', dy', wt', wm', mu', c18, q2, q3, q4, y2, y3⟩
  induction k with
  | zero =>
    intro n c dy wt wm mu M N hk h6 h hs
    rcases stp n c dy wt wm mu M N (by omega) h6 h hs with q | ⟨q, _⟩
    · exact q
    · omega
  | succ k ih =>
    intro n c dy wt wm mu M N hk h6 h hs
    rcases stp n c dy wt wm mu M N (by omega) h6 h hs with q | ⟨_, I1, J1, c', dy', wt', wm', mu', q1, q2, q3, q4, q5, q6⟩
    · exact q
    · obtain ⟨ok, v, I', J', r1, r2, r3, r4, r5, r6⟩ := ih (n + 1) c' dy' wt' wm' mu' (I1, M.2) (J1, N.2) (by omega) (by dsimp only; rw [q4.2.2 6 (by omega) (by omega) (by omega) (by omega) (by omega) (by omega)]; exact h6) q5 q6
      exact ⟨ok, v, I', J', q1.trans r1, q2.trans r2, AFc_t q3 r3, AFm_t q4 r4, r5, r6⟩
