/-! PURE ROWS: a token on both sides -/
/-- class: token T, number W; reference: kind K, worth V -/
def TKR (j : Nat) (T W K V : Int32) : Prop := (T = 0 ∧ K = 0) ∨ (T = 1 ∧ K = 3 ∧ ∃ v, v < 10000 ∧ W = nI v ∧ V = nI v) ∨ (sgC T = true ∧ K = 4 ∧ V = T) ∨ (∃ i, i < wcn j ∧ T = 128 + nI i ∧ K = 2 ∧ V = nI (wmp j i)) ∨ (T = -1 ∧ (K = 1 ∨ (K = 2 ∧ ∃ m, m < 25 ∧ V = nI m ∧ ∀ i, i < wcn j → ¬ wmp j i = m)))
theorem fiW_25 {f : Nat → Int32} {p len k : Nat} (h : fiW f p len 0 rfW = some k) : k < 25 := by
  obtain ⟨k', x, g1, g2, _⟩ := fiW_some _ _ _ h
  have c := (List.getElem?_eq_some_iff.1 g2).1
  rw [rf_len] at c
  omega
theorem TKR_of {j : Nat} (hj : j < 3) {f : Nat → Int32} {L p : Nat} (hp : p < L) (hby : ∀ k, k < L → ∃ b, b < 256 ∧ f k = nI b) {K V : Int32} (hK : K = kdM f L p) (hV : ¬ kdM f L p = 1 → V = vlM f L p) : TKR j (tokC j f L p) (numC j f L p) K V := by
  obtain ⟨b, b1, b2⟩ := hby p hp
  obtain ⟨d1, d2, d3⟩ := ld_dec ⟨b, b1⟩
  dsimp only at d1 d2 d3
  rw [← b2] at d1 d2 d3
  have hle := enE_le (f := f) hp
  cases hl : ltC (f p)
  · cases hd : dgC (f p)
    · have t : tokC j f L p = bif sgC (f p) then f p else -1 := by
        unfold tokC
        rw [hl, hd]
        rfl
      have k : kdM f L p = bif sgC (f p) then 4 else 1 := by
        unfold kdM
        rw [hl, hd]
        rfl
      have v : vlM f L p = f p := by
        unfold vlM
        rw [hl, hd]
        rfl
      cases hs : sgC (f p)
      · rw [hs, bif_f] at t k
        exact Or.inr (Or.inr (Or.inr (Or.inr ⟨t, Or.inl (hK.trans k)⟩)))
      · rw [hs, bif_t] at t k
        refine Or.inr (Or.inr (Or.inl ⟨by rw [t]; exact hs, hK.trans k, ?_⟩))
        rw [hV (by rw [k]; decide), v, t]
    · have hen := enE_dg (L := L) hl hd
      have t : tokC j f L p = bif decide (enE f L p - p ≤ 4) then 1 else -1 := by
        unfold tokC
        rw [hl, hd]
        rfl
      have k : kdM f L p = bif decide (enE f L p - p ≤ 4) then 3 else 1 := by
        unfold kdM
        rw [hl, hd]
        rfl
      have v : vlM f L p = nuF f (enE f L p - p) p 0 := by
        unfold vlM
        rw [hl, hd]
        rfl
      by_cases hk : enE f L p - p ≤ 4
      · rw [decide_eq_true hk, bif_t] at t k
        have nm : numC j f L p = nuF f (enE f L p - p) p 0 := by
          unfold numC
          rw [t]
          rfl
        obtain ⟨w, w1, w2⟩ := nuF_nat (f := f) (p := p) (enE f L p - p) (by omega) (by
          intro i hi
          obtain ⟨c, c1, c2⟩ := hby (p + i) (by omega)
          have dk : dgC (f (p + i)) = true := by
            by_cases e : i = 0
            · rw [e, Nat.add_zero]
              exact hd
            · have u2 : p + i < enE f L p := by omega
              rw [hen] at u2
              exact runE_at _ _ (p + i) (by omega) u2
          have y := (ld_dec ⟨c, c1⟩).2.1
          dsimp only at y
          rw [← c2] at y
          exact ⟨c, (y dk).2.1, (y dk).2.2, c2⟩)
        have h10 : 10 ^ (enE f L p - p) ≤ 10 ^ 4 := Nat.pow_le_pow_right (by omega) hk
        have e4 : (10 : Nat) ^ 4 = 10000 := by decide
        exact Or.inr (Or.inl ⟨t, hK.trans k, w, by omega, nm.trans w2, (hV (by rw [k]; decide)).trans (v.trans w2)⟩)
      · rw [decide_eq_false hk, bif_f] at t k
        exact Or.inr (Or.inr (Or.inr (Or.inr ⟨t, Or.inl (hK.trans k)⟩)))
  · have t : tokC j f L p = (match fiW f p (enE f L p - p) 0 (stW j) with
        | none => -1
        | some i => 128 + nI i) := by
      unfold tokC
      rw [hl]
      rfl
    have k : kdM f L p = (match fiW f p (enE f L p - p) 0 rfW with
        | none => 1
        | some _ => 2) := by
      unfold kdM
      rw [hl]
      rfl
    have v : vlM f L p = (match fiW f p (enE f L p - p) 0 rfW with
        | none => -1
        | some k => nI k) := by
      unfold vlM
      rw [hl]
      rfl
    cases hc : fiW f p (enE f L p - p) 0 (stW j) with
    | none =>
      rw [hc] at t
      refine Or.inr (Or.inr (Or.inr (Or.inr ⟨t, ?_⟩)))
      cases hr : fiW f p (enE f L p - p) 0 rfW with
      | none =>
        rw [hr] at k
        exact Or.inl (hK.trans k)
      | some m =>
        rw [hr] at k v
        have k2 : kdM f L p = 2 := k
        exact Or.inr ⟨hK.trans k, m, fiW_25 hr, (hV (by rw [k2]; decide)).trans v, wd_none hj hc hr⟩
    | some i =>
      obtain ⟨i1, i2⟩ := wd_some hj hc
      rw [hc] at t
      rw [i2] at k v
      have k2 : kdM f L p = 2 := k
      exact Or.inr (Or.inr (Or.inr (Or.inl ⟨i, i1, t, hK.trans k2, (hV (by rw [k2]; decide)).trans v⟩)))
/-- both stand at token c -/
def TKS (j : Nat) (f : Nat → Int32) (L c m : Nat) (I J : zI) : Prop := (L ≤ 400 ∧ (∀ k, k < L → ∃ b, b < 256 ∧ f k = nI b) ∧ I 1 6 = 0 ∧ I 1 7 = -1) ∧ (m ≤ 400 ∧ c ≤ m ∧ I 1 4 = nI c ∧ (∀ k, k < m → plS f L 0 k < L ∧ I 5 k = nI (plS f L 0 k) ∧ I 3 k = tokC j f L (plS f L 0 k) ∧ I 4 k = numC j f L (plS f L 0 k)) ∧ plS f L 0 m = L ∧ I 3 m = 0 ∧ I 5 m = nI L) ∧ RTK f L (plS f L 0 c) J ∧ J 79 = f ∧ J 72 13 = nI L ∧ ∀ k, k < 125 → J 80 k = wtb k
theorem TKS_r {j : Nat} (hj : j < 3) {f : Nat → Int32} {L c m : Nat} {I J : zI} (h : TKS j f L c m I J) : TKR j (I 3 c) (I 4 c) (J 72 16) (J 72 17) ∧ I 5 c = nI (plS f L 0 c) ∧ J 72 15 = nI (plS f L 0 c) := by
  obtain ⟨⟨hL, hby, _⟩, ⟨h1, h2, h3, h4, h5, h6, h7⟩, ⟨r1, r2, r3⟩, _⟩ := h
  by_cases e : c = m
  · subst e
    exact ⟨Or.inl ⟨h6, (r2 h5).2⟩, by rw [h7, h5], r1⟩
  · obtain ⟨k1, k2, k3, k4⟩ := h4 c (by omega)
    obtain ⟨s1, s2, s3⟩ := r3 k1
    rw [k3, k4]
    exact ⟨TKR_of hj k1 hby s2 s3, k2, r1⟩
