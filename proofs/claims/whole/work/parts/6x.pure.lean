/-! PURE ROWS: a text of the agenda read whole, on both sides -/
theorem readA_al (g : zg) {L t : Nat} {M N : zM} (ht : t ≤ 10) (h6 : N.1 72 6 = nI t) (hL : L ≤ 400) (h67 : M.1 1 6 = 0 ∧ M.1 1 7 = -1) (h5 : M.1 1 5 = nI L) (hby : ∀ k, k < L → ∃ b, b < 256 ∧ M.1 2 k = nI b) (he : ∀ k, k < L → M.1 2 k = N.1 79 k) (h13 : N.1 72 13 = nI L) (h14 : N.1 72 14 = 0) (h80 : ∀ k, k < 125 → N.1 80 k = wtb k) : ∃ ok v I' J', X_X0_read g [.ref 67, .ref 1, .int (nI t)] M = some (some (.int (b01 ok)), (I', M.2)) ∧ zbV (X_X12_reads g [.ref 72] N) (fun M1 => X_X12_readAgenda g [.ref 72] M1) = some (some (.int v), (J', N.2)) ∧ (∀ a, a ≠ 1 → a ≠ 3 → a ≠ 4 → a ≠ 5 → (a < 67 ∨ 71 < a) → I' a = M.1 a) ∧ (∀ k, k ≠ 4 → k ≠ 6 → k ≠ 7 → I' 1 k = M.1 1 k) ∧ AFm N.1 J' ∧ (ok = false → v = -1 ∧ FL I' J') ∧ (ok = true → (I' 1 6 = 0 ∧ I' 1 7 = -1) ∧ ∃ n' dy' wt' wm' mu', v = nI n' ∧ AS n' t dy' wt' wm' mu' I' J') := by
  obtain ⟨I1, s1, s2, s3, s4, s5⟩ := spl2_s g hL hby h5
  have hb2 : ∀ k, k < L → ∃ b, b < 256 ∧ N.1 79 k = nI b := fun k hk => by rw [← he k hk]; exact hby k hk
  obtain ⟨J1, r1, r2, r3⟩ := rd_0 g (f := N.1 79) hL hb2 L 0 N (by omega) rfl h13 (h14.trans rfl) h80
  obtain ⟨m, tk⟩ := TKS_0 hL hb2 s4 (by rw [s3 6 (by omega), s3 7 (by omega)]; exact h67) (SPL_cg he s5) r3 (r2.1 79 (by omega)) ((r2.2 13 (by omega) (by omega) (by omega) (by omega)).trans h13) (fun k hk => by rw [r2.1 80 (by omega)]; exact h80 k hk)
  have rs : AS 0 t (fun _ => 0) (fun _ => 0) (fun _ => 0) (fun _ => 0) (zu I1 67 4 0) J1 := ⟨by omega, by rw [zu_eq]; rfl, fun i hi => absurd hi (by omega)⟩
  obtain ⟨ok, v, I', J', q1, q2, q3, q4, q5, q6⟩ := agread_al g ht 16 0 0 (fun _ => 0) (fun _ => 0) (fun _ => 0) (fun _ => 0) ((zu I1 67 4 0), M.2) (J1, N.2) (by omega) ((r2.2 6 (by omega) (by omega) (by omega) (by omega)).trans h6) (TKS_Ix tk (by omega)) rs
  dsimp only at q1 q2 q3 q4
  refine ⟨ok, v, I', J', ?_, ?_, ?_, ?_, AFm_t (AFm_p (PFm_d r2)) q4, q5, q6⟩
  · rw [x_X0_read_0, s1, zbV_s]
    exact q1
  · rw [(x_X12_reads_0 g N).trans (e_X12_reads_0 g N).symm, r1, zbV_s, x_X12_readAgenda_0]
    exact q2
  · intro a u1 u2 u3 u4 u5
    rw [q3.1 a u1 u5, zu_ne (by omega), s2 a u1 u2 u3 u4]
  · intro k u1 u2 u3
    rw [q3.2 k u1 u2 u3, zu_ne1 (by omega), s3 k u1]
