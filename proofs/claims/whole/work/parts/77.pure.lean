/-! CALLS THAT MAY MAKE THINGS, under what holds between calls -/
theorem Inv_o2 {g g' : zg} {I I' : zI} (h : Inv g I) (hg : g'.1 = g.1) (hA : ∀ a, a < 240 → ¬ scr a → a ≠ 72 → I' a = I a) (h72 : ∀ k, k ≠ 0 → k ≠ 41 → k ≠ 42 → I' 72 k = I 72 k) (h40 : I' 40 0 = I 40 0) : Inv g' I' := by
  obtain ⟨⟨n, s, nx, dd, ll, rf, h1⟩, ⟨L, h2⟩, h3, h4, h5⟩ := h
  have h5' : IMG g' I := by
    unfold IMG at h5 ⊢
    rw [hg]
    exact h5
  refine ⟨⟨n, s, nx, dd, ll, rf, CORE_x h1 (fun a ha => hA a (by omega) (by unfold scr; omega) (by omega)) (fun a ha => hA a (by omega) (by unfold scr; omega) (by omega)) (fun k hk => h72 k (by omega) (by omega) (by omega))⟩, ⟨L, TPW_of h2 (by rw [hA 1 (by omega) (by unfold scr; omega) (by omega)]) (h72 13 (by omega) (by omega) (by omega)) (hA 2 (by omega) (by unfold scr; omega) (by omega)) (hA 79 (by omega) (by unfold scr; omega) (by omega)) (hA 80 (by omega) (by unfold scr; omega) (by omega))⟩, ?_, h40.trans h4, IMG_of h5' (h72 54 (by omega) (by omega) (by omega)) (fun a u1 u2 => hA a (by omega) (by unfold scr; omega) (by omega)) (hA 100 (by omega) (by unfold scr; omega) (by omega))⟩
  rw [hA 1 (by omega) (by unfold scr; omega) (by omega), h72 33 (by omega) (by omega) (by omega), h72 34 (by omega) (by omega) (by omega)]
  exact h3
/-- both answer alike, and all holds behind; more may live -/
def OKz (g : zg) (Z : Int32 → ZM → Prop) (XM : zg → zM → Option (Option Value × zM)) : Prop := ∃ v g' I1 L1 I2, ((g.1 = true → g'.1 = true) ∧ (g.2 = true → g'.2 = true)) ∧ Z v (zem g' (I1, L1)) ∧ XM g' (I1, L1) = some (some (.int v), (I2, L1)) ∧ Inv g' I2
theorem cou_go {g : zg} (M : zM) : ∃ M1, zMt yX11_theCouncil cX11_theCouncil 1 (some (.object "SackedGlass$Council")) 2 3 7230 [.ref 0] (zem g M) (some (.ref 240)) (zem (g.1, true) M1) ∧ (∀ x ∈ (zem g M).2.2.2, x ∈ (zem (g.1, true) M1).2.2.2) ∧ (∀ x ∈ (zem (g.1, true) M1).2.2.2, x ∉ (zem g M).2.2.2 → 240 ≤ x) ∧ ∀ a, a < 240 → M1.1 a = M.1 a := by
  obtain ⟨u, v⟩ := g
  cases v
  · refine ⟨couM M, cou_f M, fun x hx => ?_, fun x hx hn => ?_, fun a ha => ?_⟩
    · have hx' : x ∈ zVs (u, false) := hx
      show x ∈ zVs (u, true)
      rw [zVs_mem] at hx' ⊢
      rcases hx' with a | a | ⟨a, _⟩
      · exact Or.inl a
      · exact Or.inr (Or.inl a)
      · cases a
    · have hx' : x ∈ zVs (u, true) := hx
      have hn' : ¬ x ∈ zVs (u, false) := hn
      rw [zVs_mem] at hx' hn'
      rcases hx' with a | a | ⟨_, a⟩
      · exact absurd (Or.inl a) hn'
      · exact absurd (Or.inr (Or.inl a)) hn'
      · exact a.1
    · show zr (zr (zr M.1 240 _) 241 _) 242 _ a = M.1 a
      rw [zr_ne (by omega), zr_ne (by omega), zr_ne (by omega)]
  · exact ⟨M, cou_t M, fun _ h => h, fun _ h n => absurd h n, fun _ _ => rfl⟩
theorem zbI_inv {μ : Type} {o : Option (Option Value × μ)} {w : Int32} {N : μ} (h : zbI o (fun x M2 => (some (some (Value.int x), M2) : Option (Option Value × μ))) = some (some (.int w), N)) : o = some (some (.int w), N) := by
  cases o with
  | none => cases h
  | some p =>
    obtain ⟨v, M⟩ := p
    cases v with
    | none => cases h
    | some v =>
      cases v <;> first | exact h | cases h
theorem kz_hats (g : zg) {M : zM} (h : Inv g M.1) : OKz g (fun v N => zMt yX11_hats cX11_hats 1 (some .int) 6 3 7230 [.ref 0] (zem g M) (some (.int v)) N) (fun g => X_X12_hats g [.ref 72]) := by
  obtain ⟨M1, c1, c2, c3, c4⟩ := cou_go (g := g) M
  obtain ⟨⟨n, s, nx, dd, ll, rf, cu, _⟩, _⟩ := id h
  obtain ⟨hn, hc, hm⟩ := PR_n cu.1
  have hcr : CRJ n 7 8 M1.1 M.1 := by
    unfold CRJ
    rw [c4 7 (by omega), c4 8 (by omega)]
    exact cu.1.1
  obtain ⟨I', k1, k2⟩ := hatsC_s (g.1, true) rfl (M := M1) hcr
  have eI : ∀ a, a < 240 → I' a = M.1 a := fun a ha => (k2 a (by omega)).trans (c4 a ha)
  obtain ⟨J', r1, r2⟩ := hatsM_s (g.1, true) (N := (I', M1.2)) hn (by dsimp only; rw [eI 72 (by omega)]; exact hm)
  dsimp only at r1 r2
  rw [eI 76 (by omega), eI 73 (by omega)] at r1
  refine ⟨_, (g.1, true), I', M1.2, J', ⟨fun h => h, fun _ => rfl⟩, pa_hats rfl c1 c2 c3 k1, r1, Inv_o2 h rfl (fun a u1 u2 u3 => ?_) (fun k u1 _ _ => ?_) ?_⟩
  · unfold scr at u2
    rw [r2 a (by omega), zu_ne u3, eI a u1]
  · rw [r2 72 (by omega), zu_ne2 u1, eI 72 (by omega)]
  · rw [r2 40 (by omega), zu_ne (by omega), eI 40 (by omega)]
/-- the reference answers, all else stands -/
theorem OKz_i {g g' : zg} {M : zM} {I1 : zI} {L1 : zL} {Z : Int32 → ZM → Prop} {XM : zg → zM → Option (Option Value × zM)} {v : Int32} (h : Inv g M.1) (hg : g'.1 = g.1) (hg2 : g.2 = true → g'.2 = true) (hz : Z v (zem g' (I1, L1))) (eI : ∀ a, a < 240 → I1 a = M.1 a) (hx : XM g' (I1, L1) = some (some (.int v), ((zu I1 72 0 0), L1))) : OKz g Z XM := by
  refine ⟨v, g', I1, L1, _, ⟨fun h => hg.trans h, hg2⟩, hz, hx, Inv_o2 h hg (fun a u1 u2 u3 => ?_) (fun k u1 _ _ => ?_) ?_⟩
  · rw [zu_ne u3, eI a u1]
  · rw [zu_ne2 u1, eI 72 (by omega)]
  · rw [zu_ne (by omega), eI 40 (by omega)]
theorem kz_wins (g : zg) (a : Int32) {M : zM} (h : Inv g M.1) : OKz g (fun v N => zMt yX11_wins cX11_wins 3 (some .int) 7 3 7230 [.ref 0, .int a] (zem g M) (some (.int v)) N) (fun g => X_X12_wins g [.ref 72, .int a]) := by
  obtain ⟨⟨n, s, nx, dd, ll, rf, cu, _⟩, _⟩ := id h
  obtain ⟨hn, hc, hm⟩ := PR_n cu.1
  have hw := within_s g a 0 1 M
  cases hi : inb a 0 1
  · rw [hi] at hw
    have r := winsM_s g a (N := M) hn hm cu.1.2.1
    unfold wnA at r
    rw [hi, bif_f] at r
    exact OKz_i (g' := g) (I1 := M.1) (L1 := M.2) h rfl (fun h => h) (pa_wins1 hw) (fun _ _ => rfl) r
  · rw [hi] at hw
    obtain ⟨M1, c1, c2, c3, c4⟩ := cou_go (g := g) M
    have hcr : CRJ n 7 8 M1.1 M.1 := by
      unfold CRJ
      rw [c4 7 (by omega), c4 8 (by omega)]
      exact cu.1.1
    obtain ⟨I', k1, k2⟩ := winnersC_s (g.1, true) rfl (M := M1) hcr cu.1.2.1
    have eI : ∀ a, a < 240 → I' a = M.1 a := fun a ha => (k2 a (by omega)).trans (c4 a ha)
    have r := winsM_s (g.1, true) a (N := (I', M1.2)) (d := dd 0) hn (by dsimp only; rw [eI 72 (by omega)]; exact hm) (by dsimp only; rw [eI 73 (by omega), eI 76 (by omega), eI 77 (by omega)]; exact cu.1.2.1)
    dsimp only at r
    rw [eI 77 (by omega), eI 73 (by omega)] at r
    have e := winsC_end (g.1, true) a (fe := M.1 77) (rn := M.1 73) (n := n) (M := (I', M1.2)) hi
    refine OKz_i (g' := (g.1, true)) (I1 := I') (L1 := M1.2) h rfl (fun _ => rfl) ?_ eI r
    cases hv : cEq (bI (wiF (fun s => decide (wsN (voC (M.1 77) (M.1 73) n) 1023 < 2 * wsN (voC (M.1 77) (M.1 73) n) s)) 1023 1 none)) (-1)
    · rw [hv, bif_f] at e
      cases ha : cEq a 1
      · rw [ha, bif_f] at e
        exact pa_wins4 rfl c1 c2 c3 hw k1 hv ha (zbI_inv e)
      · rw [ha, bif_t] at e
        have ev := Value.int.inj (Option.some.inj (Prod.mk.inj (Option.some.inj e)).1)
        rw [← ev]
        exact pa_wins3 rfl c1 c2 c3 hw k1 hv ha
    · rw [hv, bif_t] at e
      have ev := Value.int.inj (Option.some.inj (Prod.mk.inj (Option.some.inj e)).1)
      rw [← ev]
      exact pa_wins2 rfl c1 c2 c3 hw k1 hv
theorem kz_weighs (g : zg) (a : Int32) {M : zM} (h : Inv g M.1) : OKz g (fun v N => zMt yX11_weighs cX11_weighs 2 (some .int) 7 3 7230 [.ref 0, .int a] (zem g M) (some (.int v)) N) (fun g => X_X12_weighs g [.ref 72, .int a]) := by
  obtain ⟨⟨n, s, nx, dd, ll, rf, cu, _⟩, _⟩ := id h
  obtain ⟨hn, hc, hm⟩ := PR_n cu.1
  have hw := has7_s g a M
  rw [hc] at hw
  cases hi : hsB (nI n) a
  · rw [hi] at hw
    have r := weighsM_s g a (N := M) hn hm cu.1.2.1
    unfold wghA at r
    rw [hi, bif_f] at r
    exact OKz_i (g' := g) (I1 := M.1) (L1 := M.2) h rfl (fun h => h) (pa_weighs1 hw) (fun _ _ => rfl) r
  · rw [hi] at hw
    obtain ⟨t, ht, rfl⟩ := hsB_ex hn hi
    obtain ⟨M1, c1, c2, c3, c4⟩ := cou_go (g := g) M
    have hcr : CRJ n 7 8 M1.1 M.1 := by
      unfold CRJ
      rw [c4 7 (by omega), c4 8 (by omega)]
      exact cu.1.1
    obtain ⟨I', k1, k2⟩ := weightC_s (g.1, true) rfl (M := M1) hcr cu.1.2.1 ht
    have eI : ∀ a, a < 240 → I' a = M.1 a := fun a ha => (k2 a (by omega)).trans (c4 a ha)
    have r := weighsM_s (g.1, true) (nI t) (N := (I', M1.2)) (d := dd 0) hn (by dsimp only; rw [eI 72 (by omega)]; exact hm) (by dsimp only; rw [eI 73 (by omega), eI 76 (by omega), eI 77 (by omega)]; exact cu.1.2.1)
    dsimp only at r
    rw [eI 77 (by omega), eI 73 (by omega)] at r
    unfold wghA at r
    rw [hi, bif_t, zx_nI (by omega)] at r
    exact OKz_i (g' := (g.1, true)) (I1 := I') (L1 := M1.2) h rfl (fun _ => rfl) (pa_weighs2 rfl c1 c2 c3 hw k1) eI r
