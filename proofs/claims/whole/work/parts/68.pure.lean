/-! PURE ROWS: the image on both sides -/
/-- what holds between calls, but of the image -/
def InvB (I : zI) : Prop := (∃ n s nx dd ll rf, CORE n s nx dd ll rf I I) ∧ (∃ L, TPW L I) ∧ (I 1 6 = I 72 33 ∧ I 1 7 = I 72 34) ∧ I 40 0 = 0
theorem Inv_B {g : zg} {I : zI} (h : Inv g I) : InvB I := ⟨h.1, h.2.1, h.2.2.1, h.2.2.2.1⟩
theorem nI_ij {a b : Nat} (ha : a < 2147483648) (hb : b < 2147483648) (h : nI a = nI b) : a = b := by
  have e := congrArg zx h
  rw [zx_nI ha, zx_nI hb] at e
  exact e
theorem WR_core {n s nx : Nat} {dd ll rf : Nat → Nat} {I J : zI} (h : CORE n s nx dd ll rf I J) : WR I J := by
  obtain ⟨⟨⟨p1, p2, _, _, l', p5, p6, p7⟩, ⟨p8, p9⟩, p10, p11, p12, p13⟩, _, h3, h4⟩ := h
  have e : l' = ll 0 := nI_ij (by omega) (by omega) (p6.symm.trans p9)
  subst e
  exact ⟨n, dd 0, ll 0, rf 0, ⟨p1, p2, ⟨p8, p9, p7⟩, p10, p11, p12, p13⟩, h3, h4⟩
theorem InvB_of {I I' : zI} (h : InvB I) (hA : ∀ a, a < 100 → a ≠ 72 → I' a = I a) (h72 : ∀ k, k ≠ 0 → k ≠ 53 → k ≠ 54 → k ≠ 55 → I' 72 k = I 72 k) : InvB I' := by
  obtain ⟨⟨n, s, nx, dd, ll, rf, h1⟩, ⟨L, h2⟩, h3, h4⟩ := h
  refine ⟨⟨n, s, nx, dd, ll, rf, CORE_x h1 (fun a ha => hA a (by omega) (by omega)) (fun a ha => hA a (by omega) (by omega)) (fun k hk => h72 k (by omega) (by omega) (by omega) (by omega))⟩, ⟨L, TPW_of h2 (by rw [hA 1 (by omega) (by omega)]) (h72 13 (by omega) (by omega) (by omega) (by omega)) (hA 2 (by omega) (by omega)) (hA 79 (by omega) (by omega)) (hA 80 (by omega) (by omega))⟩, ?_, ?_⟩
  · rw [hA 1 (by omega) (by omega), h72 33 (by omega) (by omega) (by omega) (by omega), h72 34 (by omega) (by omega) (by omega) (by omega)]
    exact h3
  · rw [hA 40 (by omega) (by omega)]
    exact h4
theorem KP_old {b : Bool} {p : Nat} {J0 J : zI} (h : KP b p J0 J) {a k : Nat} (h1 : ¬ cellM a k) (h2 : a ≠ 100) (h3 : ¬ (a = 72 ∧ k = 55)) : J a k = J0 a k := h.2.2.1 a k h1 h2 h3
/-- an image is taken -/
theorem image_t (g : zg) {I : zI} {L : zL} (h : InvB I) (hg : g.1 = true) : ∃ I2, X_X12_image g [.ref 72, .int 1] (wtk 0 200 I, L) = some (some (.int 1), (I2, L)) ∧ Inv g I2 := by
  obtain ⟨J', q1, q2⟩ := imageM_s g true (wtk 0 200 I, L) (Or.inl rfl)
  rw [if_pos rfl] at q1
  dsimp only at q1 q2
  obtain ⟨t1, t2⟩ := q2.2.2.2.1 rfl
  have z : ∀ a k, ¬ (a = 72 ∧ (k = 0 ∨ k = 53 ∨ k = 54 ∨ k = 55)) → (zu (zu (zu (zu (wtk 0 200 I) 72 0 0) 72 53 (b01 true)) 72 54 1) 72 55 0) a k = wtk 0 200 I a k := by
    intro a k hk
    rw [zu_if, if_neg (by omega), zu_if, if_neg (by omega), zu_if, if_neg (by omega), zu_if, if_neg (by omega)]
  have zc : ∀ a k, cellM a k → ¬ (a = 72 ∧ (k = 0 ∨ k = 53 ∨ k = 54 ∨ k = 55)) := by
    intro a k hc
    unfold cellM at hc
    omega
  have ol : ∀ a k, a ≠ 100 → ¬ (a = 72 ∧ (k = 0 ∨ k = 53 ∨ k = 54 ∨ k = 55)) → J' a k = wtk 0 200 I a k := by
    intro a k h1 h2
    by_cases hc : cellM a k
    · rw [t1 a k hc, z a k h2]
    · rw [KP_old q2 hc h1 (by omega), z a k h2]
  refine ⟨J', q1, ?_⟩
  obtain ⟨b1, b2, b3, b4⟩ := InvB_of (I' := J') h (fun a u1 u2 => by
    funext k
    rw [ol a k (by omega) (by omega), wt_ne (by omega)]) (fun k u1 u2 u3 u4 => by
    rw [ol 72 k (by omega) (by omega), wt_ne (by omega)])
  refine ⟨b1, b2, b3, b4, ?_⟩
  unfold IMG
  rw [if_pos hg]
  constructor
  · rw [KP_old q2 (by unfold cellM; omega) (by omega) (by omega), zu_ne2 (by omega), zu_eq]
  · obtain ⟨⟨n, s, nx, dd, ll, rf, hc⟩, _⟩ := h
    refine WR_x (WR_core hc) (fun a k hc => ?_) (fun a k hc => ?_)
    · show J' (a + 200) k = I a k
      rw [ol (a + 200) k (by omega) (by omega), Nat.add_comm a 200, wt_cell (Or.inl ⟨rfl, rfl⟩) hc, Nat.zero_add]
    · show J' 100 (imM a k) = I a k
      rw [t2 a k hc (ce_im hc).2, z a k (zc a k hc), wt_ne (by unfold cellM at hc; omega)]
/-- gone back to the image -/
theorem image_b (g : zg) {I : zI} {L : zL} (h : Inv g I) (hg : g.1 = true) : ∃ I2, X_X12_image g [.ref 72, .int 0] (zu (wtk 200 0 I) 42 2 0, L) = some (some (.int 1), (I2, L)) ∧ Inv g I2 := by
  obtain ⟨⟨n, s, nx, dd, ll, rf, hc⟩, ⟨T, b2⟩, b3, b4, b5⟩ := h
  unfold IMG at b5
  rw [if_pos hg] at b5
  obtain ⟨b5, b6⟩ := b5
  obtain ⟨J', q1, q2⟩ := imageM_s g false (zu (wtk 200 0 I) 42 2 0, L) (Or.inr (by
    dsimp only
    rw [zu_ne1 (by omega), wt_ne (by omega), b5]
    decide))
  rw [if_neg (by decide)] at q1
  dsimp only at q1 q2
  obtain ⟨t1, t2⟩ := q2.2.2.2.2 rfl
  have z : ∀ a k, ¬ (a = 72 ∧ (k = 0 ∨ k = 53 ∨ k = 54 ∨ k = 55)) → ¬ (a = 42 ∧ k = 2) → (zu (zu (zu (zu (zu (wtk 200 0 I) 42 2 0) 72 0 0) 72 53 (b01 false)) 72 54 1) 72 55 0) a k = wtk 200 0 I a k := by
    intro a k hk hk2
    rw [zu_if, if_neg (by omega), zu_if, if_neg (by omega), zu_if, if_neg (by omega), zu_if, if_neg (by omega), zu_if, if_neg hk2]
  have ol : ∀ a k, ¬ cellM a k → a ≠ 100 → ¬ (a = 72 ∧ (k = 0 ∨ k = 3 ∨ k = 53 ∨ k = 54 ∨ k = 55)) → ¬ (a = 42 ∧ k = 2) → zu J' 72 3 0 a k = wtk 200 0 I a k := by
    intro a k h1 h2 h3 h4
    rw [zu_if, if_neg (by omega), KP_old q2 h1 h2 (by omega), z a k (by omega) h4]
  have r100 : zu J' 72 3 0 100 = I 100 := by
    rw [zu_ne (by omega), t1]
    funext k
    rw [z 100 k (by omega) (by omega), wt_ne (by omega)]
  have cm : ∀ a k, cellM a k → zu J' 72 3 0 a k = imJ I a k := by
    intro a k h1
    have n3 : ¬ (a = 72 ∧ k = 3) := by
      unfold cellM at h1
      omega
    rw [zu_if, if_neg n3, t2 a k h1 (ce_im h1).2, z 100 _ (by omega) (by omega), wt_ne (by omega)]
    rfl
  have hi : ∀ a, a < 72 ∨ 100 < a → ∀ k, ¬ cellM a k := by
    intro a ha k h1
    unfold cellM at h1
    omega
  have lo : ∀ a k, a < 72 ∨ 100 < a → ¬ (a = 42 ∧ k = 2) → zu J' 72 3 0 a k = wtk 200 0 I a k := fun a k ha hk => ol a k (hi a ha k) (by omega) (by omega) hk
  have cc : ∀ a k, cellC a k → zu J' 72 3 0 a k = imI I a k := by
    intro a k h1
    rw [lo a k (by unfold cellC at h1; omega) (by unfold cellC at h1; omega)]
    have e := wt_cell (I := I) (s := 200) (d := 0) (Or.inr ⟨rfl, rfl⟩) h1
    rw [Nat.zero_add] at e
    rw [e]
    show I (200 + a) k = I (a + 200) k
    rw [Nat.add_comm]
  have nm : ∀ k, ¬ (k = 6 ∨ k = 7 ∨ k = 8 ∨ k = 35 ∨ k = 37 ∨ k = 43 ∨ k = 45 ∨ k = 47) → ¬ cellM 72 k := by
    intro k hk h1
    unfold cellM at h1
    omega
  have f72 : ∀ k, k = 5 ∨ k = 13 ∨ k = 33 ∨ k = 34 → zu J' 72 3 0 72 k = I 72 k := by
    intro k hk
    rw [ol 72 k (nm k (by omega)) (by omega) (by omega) (by omega), wt_ne (by omega)]
  obtain ⟨n', d', l', r', ⟨p1, p2, ⟨p3, p4, p5⟩, p6, p7, p8, p9⟩, p10, p11⟩ := WR_x b6 cc cm
  obtain ⟨⟨⟨_, _, c3, c4, _⟩, _⟩, ⟨_, s2, s3, _⟩, _⟩ := hc
  refine ⟨_, q1, ⟨n', 0, nx, fun _ => d', fun _ => l', fun _ => r', ⟨⟨p1, p2, ?_, ?_, l', p3, p4, p5⟩, ⟨p3, p4⟩, p6, p7, p8, p9⟩, ⟨by omega, s2, ?_, ?_, ?_, fun i hi => absurd hi (by omega), fun i hi => absurd hi (by omega)⟩, p10, p11⟩, ⟨T, TPW_of b2 ?_ (f72 13 (by omega)) ?_ ?_ ?_⟩, ?_, ?_, ?_⟩
  · rw [lo 7 0 (by omega) (by omega)]
    have e := wt_0 (I := I) (s := 200) (d := 0)
    rw [Nat.zero_add] at e
    rw [e]
    exact c3
  · rw [f72 5 (by omega)]
    exact c4
  · rw [lo 42 1 (by omega) (by omega), wt_ne (by omega)]
    exact s3
  · rw [zu_ne1 (by omega), KP_old q2 (hi 42 (by omega) 2) (by omega) (by omega), zu_ne1 (by omega), zu_ne1 (by omega), zu_ne1 (by omega), zu_ne1 (by omega), zu_eq]
    rfl
  · rw [zu_eq]
    rfl
  · rw [lo 1 5 (by omega) (by omega), wt_ne (by omega)]
  · funext k
    rw [lo 2 k (by omega) (by omega), wt_ne (by omega)]
  · funext k
    rw [ol 79 k (by unfold cellM; omega) (by omega) (by omega) (by omega), wt_ne (by omega)]
  · funext k
    rw [ol 80 k (by unfold cellM; omega) (by omega) (by omega) (by omega), wt_ne (by omega)]
  · rw [lo 1 6 (by omega) (by omega), lo 1 7 (by omega) (by omega), f72 33 (by omega), f72 34 (by omega), wt_ne (by omega)]
    exact b3
  · rw [lo 40 0 (by omega) (by omega), wt_ne (by omega)]
    exact b4
  · unfold IMG
    rw [if_pos hg]
    constructor
    · rw [zu_ne2 (by omega), KP_old q2 (nm 54 (by omega)) (by omega) (by omega), zu_ne2 (by omega), zu_eq]
    · refine WR_x b6 (fun a k hc => ?_) (fun a k hc => ?_)
      · show zu J' 72 3 0 (a + 200) k = I (a + 200) k
        rw [lo (a + 200) k (by omega) (by omega), wt_ne (by omega)]
      · show zu J' 72 3 0 100 _ = I 100 _
        rw [r100]
/-- no image to go back to -/
theorem image_n (g : zg) {I : zI} {L : zL} (h : Inv g I) (hg : ¬ g.1 = true) : ∃ I2, X_X12_image g [.ref 72, .int 0] (I, L) = some (some (.int 0), (I2, L)) ∧ Inv g I2 := by
  obtain ⟨_, _, _, _, b5⟩ := id h
  unfold IMG at b5
  rw [if_neg hg] at b5
  exact ⟨_, imageM_n g (I, L) b5, Inv_of h (fun a _ ha => zu_ne ha) (fun k hk _ _ => zu_ne2 hk) (zu_ne1 (by omega))⟩
