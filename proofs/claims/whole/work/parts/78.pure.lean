/-! serves and leaks -/
theorem POJ_r {m : Nat} {I J I' : zI} (h : POJ m I J) (h32 : I' 32 = I 32) (h36 : I' 36 = I 36) (h37 : I' 37 = I 37) : POJ m I' J := PO_x h (by rw [h32]) (fun j _ => ⟨by rw [h36], by rw [h37]⟩) rfl (fun j _ => ⟨rfl, rfl⟩)
theorem kz_serves (g : zg) (a : Int32) {M : zM} (h : Inv g M.1) : OKz g (fun v N => zMt yX11_serves cX11_serves 2 (some .int) 7 3 7230 [.ref 0, .int a] (zem g M) (some (.int v)) N) (fun g => X_X12_serves g [.ref 72, .int a]) := by
  obtain ⟨⟨n, s, nx, dd, ll, rf, cu, _, _, ⟨_, _, _, ⟨m, hp⟩, _⟩⟩, _⟩ := id h
  obtain ⟨hn, hc, hm⟩ := PR_n cu.1
  have hm6 := hp.1
  have h8 : M.1 32 8 = nI m := hp.2.1
  have e9 : (10 + M.1 32 8 - 1 : Int32) = 9 + nI m := by
    rw [h8, show (10 : Int32) = nI 10 from rfl, nI_ad2, show 10 + m = 9 + m + 1 from by omega, nI_q1, show (9 : Int32) = nI 9 from rfl, nI_ad2]
  have fin : ∀ (g' : zg) (I1 : zI) (L1 : zL) (v : Int32), g'.1 = g.1 → (g.2 = true → g'.2 = true) → (∀ a, a < 240 → I1 a = M.1 a) → zMt yX11_serves cX11_serves 2 (some .int) 7 3 7230 [.ref 0, .int a] (zem g M) (some (.int v)) (zem g' (I1, L1)) → v = srvA (fun i t => wtN (M.1 76) (M.1 95) (M.1 96) (M.1 73) n m i t) m a → OKz g (fun v N => zMt yX11_serves cX11_serves 2 (some .int) 7 3 7230 [.ref 0, .int a] (zem g M) (some (.int v)) N) (fun g => X_X12_serves g [.ref 72, .int a]) := by
    intro g' I1 L1 v hg hg2 eI hz hv
    obtain ⟨J', r1, r2⟩ := servesM_s g' a (I := M.1) (N := (I1, L1)) (m := m) (n := n) (PO_x hp rfl (fun _ _ => ⟨rfl, rfl⟩) (by dsimp only; rw [eI 72 (by omega)]) (fun j _ => ⟨by dsimp only; rw [eI 95 (by omega)], by dsimp only; rw [eI 96 (by omega)]⟩)) hn (by dsimp only; rw [eI 72 (by omega)]; exact hm)
    dsimp only at r1 r2
    rw [eI 76 (by omega), eI 95 (by omega), eI 96 (by omega), eI 73 (by omega), ← hv] at r1
    refine ⟨v, g', I1, L1, J', ⟨fun h => hg.trans h, hg2⟩, hz, r1, Inv_o2 h hg (fun a u1 u2 u3 => ?_) (fun k u1 _ _ => ?_) ?_⟩
    · unfold scr at u2
      rw [r2 a (by omega), zu_ne u3, eI a u1]
    · rw [r2 72 (by omega), zu_ne2 u1, eI 72 (by omega)]
    · rw [r2 40 (by omega), zu_ne (by omega), eI 40 (by omega)]
  have go : ∃ M1 : zM, zMt yX11_theCouncil cX11_theCouncil 1 (some (.object "SackedGlass$Council")) 2 3 7230 [.ref 0] (zem g M) (some (.ref 240)) (zem (g.1, true) M1) ∧ (∀ x ∈ (zem g M).2.2.2, x ∈ (zem (g.1, true) M1).2.2.2) ∧ (∀ x ∈ (zem (g.1, true) M1).2.2.2, x ∉ (zem g M).2.2.2 → 240 ≤ x) ∧ (∀ a, a < 240 → M1.1 a = M.1 a) ∧ ∃ I', X_X2_greatestService (g.1, true) [.ref 240, .ref 7, .ref 32] M1 = some (some (.int (nI (gsN (fun i t => wtN (M.1 76) (M.1 95) (M.1 96) (M.1 73) n m i t) m m 0))), (I', M1.2)) ∧ (∀ a, a < 240 → I' a = M.1 a) ∧ TC (fun i t => wtN (M.1 76) (M.1 95) (M.1 96) (M.1 73) n m i t) m 0 (I' 241) ∧ WT (fun i t => wtN (M.1 76) (M.1 95) (M.1 96) (M.1 73) n m i t) (I' 242) := by
    obtain ⟨M1, c1, c2, c3, c4⟩ := cou_go (g := g) M
    have hcr : CRJ n 7 8 M1.1 M.1 := by
      unfold CRJ
      rw [c4 7 (by omega), c4 8 (by omega)]
      exact cu.1.1
    obtain ⟨I', k1, k2, k3, k4⟩ := great_s (g.1, true) rfl (M := M1) hcr (POJ_r hp (c4 32 (by omega)) (c4 36 (by omega)) (c4 37 (by omega)))
    exact ⟨M1, c1, c2, c3, c4, I', k1, fun a ha => (k2 a (by omega) (by omega)).trans (c4 a ha), k3, k4⟩
  cases ha : cEq0 a
  · have hw := within_s g a 10 (10 + M.1 32 8 - 1) M
    cases hi : inb a 10 (10 + M.1 32 8 - 1)
    · rw [hi] at hw
      refine fin g M.1 M.2 (-1) rfl (fun h => h) (fun _ _ => rfl) (pa_serves2 ha hw) ?_
      unfold srvA
      rw [e9] at hi
      rw [ha, bif_f, hi, bif_f]
    · rw [hi] at hw
      rw [e9] at hi
      obtain ⟨M1, c1, c2, c3, c4, I', k1, eI, k3, k4⟩ := go
      have hq : ∃ q, q < m ∧ a = nI (q + 10) := by
        have hi' : inb (a - 10) 0 (nI (m - 1)) = true ∨ True := Or.inr trivial
        have e1 : (9 + nI m : Int32) = nI (9 + m) := by rw [show (9 : Int32) = nI 9 from rfl, nI_ad2]
        rw [e1] at hi
        have h0 : inb a 0 (nI (9 + m)) = true := by
          unfold inb at hi ⊢
          rw [Bool.and_eq_true] at hi ⊢
          refine ⟨?_, hi.2⟩
          have c := hi.1
          unfold cLt at c ⊢
          simp only [Bool.not_eq_true', decide_eq_false_iff_not, Int32.lt_iff_toInt_lt] at c ⊢
          have z0 : (0 : Int32).toInt = 0 := by decide
          have z10 : (10 : Int32).toInt = 10 := by decide
          omega
        obtain ⟨k, hk, e⟩ := inb_ex (b := 9 + m) (by omega) h0
        have hi2 := hi
        rw [e, show (10 : Int32) = nI 10 from rfl, inb_nI (by omega) (by omega) (by omega), Bool.and_eq_true, decide_eq_true_eq, decide_eq_true_eq] at hi2
        exact ⟨k - 10, by omega, by rw [e, show k - 10 + 10 = k from by omega]⟩
      obtain ⟨q, hq, e⟩ := hq
      subst e
      have ea : (nI (q + 10) - 10 : Int32) = nI q := by rw [show (10 : Int32) = nI 10 from rfl, nI_sub (by omega), show q + 10 - 10 = q from by omega]
      have ho := ho_16 (g.1, true) rfl (wt := fun i t => wtN (M.1 76) (M.1 95) (M.1 96) (M.1 73) n m i t) (m := m) (q := q) (M := (I', M1.2)) hm6 hq (fun i t => wtN_le hp) k4 k3 (by dsimp only; rw [eI 32 (by omega)]; exact h8) (q + 1) 0 0 none (by omega) (by omega) (by decide)
      have hk : X_X2_holderOf (g.1, true) [.ref 240, .ref 7, .ref 32, .int (nI (q + 10) - 10)] M1 = some (some (.int (bI (hoF (fun i t => wtN (M.1 76) (M.1 95) (M.1 96) (M.1 73) n m i t) m (q + 1) 0 0 none))), (I', M1.2)) := by
        rw [x_X2_holderOf_0 (g.1, true) rfl, k1, zbI_s, ea]
        exact ho
      refine fin (g.1, true) I' M1.2 _ rfl (fun _ => rfl) eI (pa_serves3 rfl c1 c2 c3 ha hw hk) ?_
      unfold srvA
      rw [ha, bif_f, hi, bif_t, zx_nI (by omega), show q + 10 - 10 + 1 = q + 1 from by omega]
  · obtain ⟨M1, c1, c2, c3, c4, I', k1, eI, k3, k4⟩ := go
    refine fin (g.1, true) I' M1.2 _ rfl (fun _ => rfl) eI (pa_serves1 rfl c1 c2 c3 ha k1) ?_
    unfold srvA
    rw [ha, bif_t]
theorem kz_leaks (g : zg) (a1 a2 : Int32) {M : zM} (h : Inv g M.1) : OKz g (fun v N => zMt yX11_leaks cX11_leaks 4 (some .int) 4 3 7230 [.ref 0, .int a1, .int a2] (zem g M) (some (.int v)) N) (fun g => X_X12_leaks g [.ref 72, .int a1, .int a2]) := by
  obtain ⟨⟨n, s, nx, dd, ll, rf, cu, _, ⟨_, m, wo, wm, hu⟩, _⟩, _⟩ := id h
  obtain ⟨hn, hc, hm⟩ := PR_n cu.1
  have r0 := leaksM_s g a1 a2 (N := M) hu hn hm
  unfold leaA at r0
  cases h2 : cEq a2 2
  · rw [h2, bif_f] at r0
    have hw := within_s g a2 0 1 M
    have hx := within_s g a1 0 4095 M
    cases i2 : inb a2 0 1
    · rw [i2] at hw r0
      rw [Bool.and_false, bif_f] at r0
      exact OKz_i (g' := g) (I1 := M.1) (L1 := M.2) h rfl (fun h => h) (pa_leaks2 h2 hw) (fun _ _ => rfl) r0
    · rw [i2] at hw r0
      cases i1 : inb a1 0 4095
      · rw [i1] at hx r0
        rw [Bool.false_and, bif_f] at r0
        exact OKz_i (g' := g) (I1 := M.1) (L1 := M.2) h rfl (fun h => h) (pa_leaks3 h2 hw hx) (fun _ _ => rfl) r0
      · rw [i1] at hx
        obtain ⟨tk, htk, e⟩ := inb_ex (b := 4095) (by omega) i1
        subst e
        obtain ⟨M1, c1, c2, c3, c4⟩ := cou_go (g := g) M
        obtain ⟨I', k1, k2⟩ := leakC_s (g.1, true) rfl (J := M.1) (M := M1) (tk := tk) hn (UM_x hu (by rw [c4 32 (by omega)]) (fun j _ => ⟨by rw [c4 34 (by omega)], by rw [c4 35 (by omega)]⟩) rfl (fun _ _ => rfl)) (by omega)
        have eI : ∀ a, a < 240 → I' a = M.1 a := fun a ha => (k2 a (by omega)).trans (c4 a ha)
        have r := leaksM_s (g.1, true) (nI tk) a2 (I := M.1) (N := (I', M1.2)) (UM_x hu rfl (fun _ _ => ⟨rfl, rfl⟩) (by dsimp only; rw [eI 72 (by omega)]) (fun j _ => by dsimp only; rw [eI 94 (by omega)])) hn (by dsimp only; rw [eI 72 (by omega)]; exact hm)
        unfold leaA at r
        rw [h2, bif_f, i1, i2, Bool.and_true, bif_t, zx_nI (by omega)] at r
        refine OKz_i (g' := (g.1, true)) (I1 := I') (L1 := M1.2) h rfl (fun _ => rfl) ?_ eI r
        have e := leaksC_end (g.1, true) (tk := tk) (a2 := a2) (u := fun t => unA wo wm t m) (M := (I', M1.2))
        cases hv : cEq (bI (wiF (fun s => decide (orN (fun t => unA wo wm t m) s = tk)) 1024 0 none)) (-1)
        · rw [hv, bif_f] at e
          cases hq : cEq a2 1
          · rw [hq, bif_f] at e
            exact pa_leaks6 rfl c1 c2 c3 h2 hw hx k1 hv hq (zbI_inv e)
          · rw [hq, bif_t] at e
            have ev := Value.int.inj (Option.some.inj (Prod.mk.inj (Option.some.inj e)).1)
            rw [← ev]
            exact pa_leaks5 rfl c1 c2 c3 h2 hw hx k1 hv hq
        · rw [hv, bif_t] at e
          have ev := Value.int.inj (Option.some.inj (Prod.mk.inj (Option.some.inj e)).1)
          rw [← ev]
          exact pa_leaks4 rfl c1 c2 c3 h2 hw hx k1 hv
  · rw [h2, bif_t] at r0
    exact OKz_i (g' := g) (I1 := M.1) (L1 := M.2) h rfl (fun h => h) (pa_leaks1 h2 (askC_s g hu hn)) (fun _ _ => rfl) r0
