/-! PURE ROWS: seen, post, mix, umbrella; feed, end -/
theorem k_seen (g : zg) (a : Int32) {M : zM} (h : Inv g M.1) : OKc g (X_X11_seen g [.ref 0, .int a]) (X_X12_seen g [.ref 72, .int a]) M := by
  refine OK_sd h (fun n N hn hc hm hse hpo hmx hu => ?_)
  obtain ⟨m, hs⟩ := hse
  obtain ⟨m2, hp⟩ := hpo
  obtain ⟨m3, wo, wm, hu⟩ := hu
  have q1 := seenC_s g a hs.1 hs.2.1
  have q2 := seenM_s g a hs.1 hs.2.2.1
  by_cases h1 : a = -1
  · rw [if_pos h1] at q1 q2
    refine ⟨_, _, _, q1, q2, fun b hb => zu_ne (by omega), fun b _ u => by rw [zu_ne u, zu_ne u], fun b u => by rw [zu_ne (by omega), zu_ne (by omega)], fun k u1 u2 _ _ => by rw [zu_ne2 u2, zu_ne2 u1], ⟨0, by omega, zu_eq.trans rfl, zu_eq.trans rfl, fun k hk => absurd hk (by omega)⟩, ⟨m2, PO_x hp ?_ ?_ ?_ ?_⟩, MX_x hmx ?_ ?_, m3, wo, wm, UM_x hu ?_ ?_ ?_ ?_⟩
    · exact zu_ne2 (by omega)
    · intro j _
      exact ⟨zu_ne1 (by omega), zu_ne1 (by omega)⟩
    · rw [zu_ne2 (by omega), zu_ne2 (by omega)]
    · intro j _
      exact ⟨by rw [zu_ne1 (by omega), zu_ne1 (by omega)], by rw [zu_ne1 (by omega), zu_ne1 (by omega)]⟩
    · intro j _
      exact zu_ne1 (by omega)
    · intro j _
      rw [zu_ne1 (by omega), zu_ne1 (by omega)]
    · exact zu_ne2 (by omega)
    · intro j _
      exact ⟨zu_ne1 (by omega), zu_ne1 (by omega)⟩
    · rw [zu_ne2 (by omega), zu_ne2 (by omega)]
    · intro j _
      rw [zu_ne1 (by omega), zu_ne1 (by omega)]
  · rw [if_neg h1] at q1 q2
    by_cases h2 : inb a 0 99 = true ∧ m < 12
    · rw [if_pos h2] at q1 q2
      refine ⟨_, _, _, q1, q2, fun b hb => by rw [zu_ne (by omega), zu_ne (by omega)], fun b _ u => by rw [zu_ne u, zu_ne (by omega), zu_ne u], fun b u => by rw [zu_ne (by omega), zu_ne (by omega), zu_ne (by omega)], fun k u1 u2 _ _ => by rw [zu_ne2 u2, zu_ne1 (by omega), zu_ne2 u1], ⟨m + 1, by omega, zu_eq, zu_eq, ?_⟩, ⟨m2, PO_x hp ?_ ?_ ?_ ?_⟩, MX_x hmx ?_ ?_, m3, wo, wm, UM_x hu ?_ ?_ ?_ ?_⟩
      · intro k hk
        rw [zu_ne1 (by omega), zu_ne1 (b := 93) (by omega), zu_upd, zu_upd (a := 93), zu_ne (b := 93) (by omega)]
        refine ⟨upd1_two (fun e => (hs.2.2.2 k (by omega)).1), ?_⟩
        by_cases e : k = m
        · subst e
          rw [upd1_eq]
          exact h2.1
        · rw [upd1_ne e]
          exact (hs.2.2.2 k (by omega)).2
      · rw [zu_ne2 (by omega), zu_ne1 (by omega)]
      · intro j _
        exact ⟨by rw [zu_ne1 (by omega), zu_ne1 (by omega)], by rw [zu_ne1 (by omega), zu_ne1 (by omega)]⟩
      · rw [zu_ne2 (by omega), zu_ne1 (by omega), zu_ne2 (by omega)]
      · intro j _
        exact ⟨by rw [zu_ne1 (by omega), zu_ne1 (by omega), zu_ne1 (by omega)], by rw [zu_ne1 (by omega), zu_ne1 (by omega), zu_ne1 (by omega)]⟩
      · intro j _
        rw [zu_ne1 (by omega), zu_ne1 (by omega)]
      · intro j _
        rw [zu_ne1 (by omega), zu_ne1 (by omega), zu_ne1 (by omega)]
      · rw [zu_ne2 (by omega), zu_ne1 (by omega)]
      · intro j _
        exact ⟨by rw [zu_ne1 (by omega), zu_ne1 (by omega)], by rw [zu_ne1 (by omega), zu_ne1 (by omega)]⟩
      · rw [zu_ne2 (by omega), zu_ne1 (by omega), zu_ne2 (by omega)]
      · intro j _
        rw [zu_ne1 (by omega), zu_ne1 (by omega), zu_ne1 (by omega)]
    · rw [if_neg h2] at q1 q2
      exact ⟨_, _, _, q1, q2, fun _ _ => rfl, fun b _ u => zu_ne u, fun b u => zu_ne (by omega), fun k u _ _ _ => zu_ne2 u, ⟨m, SE_x hs rfl (fun _ _ => rfl) (zu_ne2 (by omega)) (fun _ _ => zu_ne1 (by omega))⟩, ⟨m2, PO_x hp rfl (fun _ _ => ⟨rfl, rfl⟩) (zu_ne2 (by omega)) (fun _ _ => ⟨zu_ne1 (by omega), zu_ne1 (by omega)⟩)⟩, MX_x hmx (fun _ _ => rfl) (fun _ _ => zu_ne1 (by omega)), m3, wo, wm, UM_x hu rfl (fun _ _ => ⟨rfl, rfl⟩) (zu_ne2 (by omega)) (fun _ _ => zu_ne1 (by omega))⟩
theorem k_post (g : zg) (a b : Int32) {M : zM} (h : Inv g M.1) : OKc g (X_X11_post g [.ref 0, .int a, .int b]) (X_X12_post g [.ref 72, .int a, .int b]) M := by
  refine OK_sd h (fun n N hn hc hm hse hpo hmx hu => ?_)
  obtain ⟨m2, hs⟩ := hse
  obtain ⟨m, hp⟩ := hpo
  obtain ⟨m3, wo, wm, hu⟩ := hu
  have q1 := postC_s g a b hp.1 hp.2.1
  have q2 := postM_s g a b hp.1 hp.2.2.1
  by_cases h1 : a = -1
  · rw [if_pos h1] at q1 q2
    refine ⟨_, _, _, q1, q2, fun b hb => zu_ne (by omega), fun b _ u => by rw [zu_ne u, zu_ne u], fun b u => by rw [zu_ne (by omega), zu_ne (by omega)], fun k u1 _ _ u2 => by rw [zu_ne2 u2, zu_ne2 u1], ⟨m2, SE_x hs ?_ ?_ ?_ ?_⟩, ⟨0, by omega, zu_eq.trans rfl, zu_eq.trans rfl, fun k hk => absurd hk (by omega)⟩, MX_x hmx ?_ ?_, m3, wo, wm, UM_x hu ?_ ?_ ?_ ?_⟩
    · exact zu_ne2 (by omega)
    · intro j _
      exact zu_ne1 (by omega)
    · rw [zu_ne2 (by omega), zu_ne2 (by omega)]
    · intro j _
      rw [zu_ne1 (by omega), zu_ne1 (by omega)]
    · intro j _
      exact zu_ne1 (by omega)
    · intro j _
      rw [zu_ne1 (by omega), zu_ne1 (by omega)]
    · exact zu_ne2 (by omega)
    · intro j _
      exact ⟨zu_ne1 (by omega), zu_ne1 (by omega)⟩
    · rw [zu_ne2 (by omega), zu_ne2 (by omega)]
    · intro j _
      rw [zu_ne1 (by omega), zu_ne1 (by omega)]
  · rw [if_neg h1] at q1 q2
    by_cases h2 : inb a 0 5 = true ∧ inb b 1 99 = true ∧ m < 6
    · rw [if_pos h2] at q1 q2
      refine ⟨_, _, _, q1, q2, fun b hb => by rw [zu_ne (by omega), zu_ne (by omega), zu_ne (by omega)], fun b _ u => by rw [zu_ne u, zu_ne (by omega), zu_ne (by omega), zu_ne u], fun b u => by rw [zu_ne (by omega), zu_ne (by omega), zu_ne (by omega), zu_ne (by omega)], fun k u1 _ _ u2 => by rw [zu_ne2 u2, zu_ne1 (by omega), zu_ne1 (by omega), zu_ne2 u1], ⟨m2, SE_x hs ?_ ?_ ?_ ?_⟩, ⟨m + 1, by omega, zu_eq, zu_eq, ?_⟩, MX_x hmx ?_ ?_, m3, wo, wm, UM_x hu ?_ ?_ ?_ ?_⟩
      · rw [zu_ne2 (by omega), zu_ne1 (by omega), zu_ne1 (by omega)]
      · intro j _
        rw [zu_ne1 (by omega), zu_ne1 (by omega), zu_ne1 (by omega)]
      · rw [zu_ne2 (by omega), zu_ne1 (by omega), zu_ne1 (by omega), zu_ne2 (by omega)]
      · intro j _
        rw [zu_ne1 (by omega), zu_ne1 (by omega), zu_ne1 (by omega), zu_ne1 (by omega)]
      · intro k hk
        rw [zu_ne1 (b := 36) (by omega), zu_ne1 (b := 36) (by omega), zu_upd (a := 36), zu_ne1 (b := 37) (by omega), zu_upd (a := 37), zu_ne (b := 37) (by omega), zu_ne1 (b := 95) (by omega), zu_ne1 (b := 95) (by omega), zu_upd (a := 95), zu_ne (b := 95) (by omega), zu_ne1 (b := 96) (by omega), zu_upd (a := 96), zu_ne (b := 96) (by omega), zu_ne (b := 96) (by omega)]
        refine ⟨upd1_two (fun e => (hp.2.2.2 k (by omega)).1), upd1_two (fun e => (hp.2.2.2 k (by omega)).2.1), ?_, ?_⟩
        · by_cases e : k = m
          · subst e
            rw [upd1_eq]
            exact h2.1
          · rw [upd1_ne e]
            exact (hp.2.2.2 k (by omega)).2.2.1
        · by_cases e : k = m
          · subst e
            rw [upd1_eq]
            exact h2.2.1
          · rw [upd1_ne e]
            exact (hp.2.2.2 k (by omega)).2.2.2
      · intro j _
        rw [zu_ne1 (by omega), zu_ne1 (by omega), zu_ne1 (by omega)]
      · intro j _
        rw [zu_ne1 (by omega), zu_ne1 (by omega), zu_ne1 (by omega), zu_ne1 (by omega)]
      · rw [zu_ne2 (by omega), zu_ne1 (by omega), zu_ne1 (by omega)]
      · intro j _
        exact ⟨by rw [zu_ne1 (by omega), zu_ne1 (by omega), zu_ne1 (by omega)], by rw [zu_ne1 (by omega), zu_ne1 (by omega), zu_ne1 (by omega)]⟩
      · rw [zu_ne2 (by omega), zu_ne1 (by omega), zu_ne1 (by omega), zu_ne2 (by omega)]
      · intro j _
        rw [zu_ne1 (by omega), zu_ne1 (by omega), zu_ne1 (by omega), zu_ne1 (by omega)]
    · rw [if_neg h2] at q1 q2
      exact ⟨_, _, _, q1, q2, fun _ _ => rfl, fun b _ u => zu_ne u, fun b u => zu_ne (by omega), fun k u _ _ _ => zu_ne2 u, ⟨m2, SE_x hs rfl (fun _ _ => rfl) (zu_ne2 (by omega)) (fun _ _ => zu_ne1 (by omega))⟩, ⟨m, PO_x hp rfl (fun _ _ => ⟨rfl, rfl⟩) (zu_ne2 (by omega)) (fun _ _ => ⟨zu_ne1 (by omega), zu_ne1 (by omega)⟩)⟩, MX_x hmx (fun _ _ => rfl) (fun _ _ => zu_ne1 (by omega)), m3, wo, wm, UM_x hu rfl (fun _ _ => ⟨rfl, rfl⟩) (zu_ne2 (by omega)) (fun _ _ => zu_ne1 (by omega))⟩
theorem k_mix (g : zg) (a b : Int32) {M : zM} (h : Inv g M.1) : OKc g (X_X11_mix g [.ref 0, .int a, .int b]) (X_X12_mix g [.ref 72, .int a, .int b]) M := by
  refine OK_sd h (fun n N hn hc hm hse hpo hmx hu => ?_)
  obtain ⟨m2, hs⟩ := hse
  obtain ⟨m, hp⟩ := hpo
  obtain ⟨m3, wo, wm, hu⟩ := hu
  have q1 := mixC_s g a b M
  have q2 := mixM_s g a b N
  cases hb : (inb a 0 3 && inb b 0 99)
  · rw [hb, bif_f] at q1 q2
    exact ⟨_, _, _, q1, q2, fun _ _ => rfl, fun b _ u => zu_ne u, fun b u => zu_ne (by omega), fun k u _ _ _ => zu_ne2 u, ⟨m2, SE_x hs rfl (fun _ _ => rfl) (zu_ne2 (by omega)) (fun _ _ => zu_ne1 (by omega))⟩, ⟨m, PO_x hp rfl (fun _ _ => ⟨rfl, rfl⟩) (zu_ne2 (by omega)) (fun _ _ => ⟨zu_ne1 (by omega), zu_ne1 (by omega)⟩)⟩, MX_x hmx (fun _ _ => rfl) (fun _ _ => zu_ne1 (by omega)), m3, wo, wm, UM_x hu rfl (fun _ _ => ⟨rfl, rfl⟩) (zu_ne2 (by omega)) (fun _ _ => zu_ne1 (by omega))⟩
  · rw [hb, bif_t] at q1 q2
    rw [Bool.and_eq_true] at hb
    refine ⟨_, _, _, q1, q2, fun b hb => zu_ne (by omega), fun b u1 u => by rw [zu_ne (by omega), zu_ne u], fun b u => by rw [zu_ne (by omega), zu_ne (by omega)], fun k u _ _ _ => by rw [zu_ne1 (by omega), zu_ne2 u], ⟨m2, SE_x hs (zu_ne1 (by omega)) (fun _ _ => zu_ne1 (by omega)) ?_ ?_⟩, ⟨m, PO_x hp (zu_ne1 (by omega)) (fun _ _ => ⟨zu_ne1 (by omega), zu_ne1 (by omega)⟩) ?_ ?_⟩, ?_, m3, wo, wm, UM_x hu (zu_ne1 (by omega)) (fun _ _ => ⟨zu_ne1 (by omega), zu_ne1 (by omega)⟩) ?_ ?_⟩
    · rw [zu_ne1 (by omega), zu_ne2 (by omega)]
    · intro j _
      rw [zu_ne1 (by omega), zu_ne1 (by omega)]
    · rw [zu_ne1 (by omega), zu_ne2 (by omega)]
    · intro j _
      exact ⟨by rw [zu_ne1 (by omega), zu_ne1 (by omega)], by rw [zu_ne1 (by omega), zu_ne1 (by omega)]⟩
    · intro k hk
      rw [zu_upd, zu_upd (a := 99), zu_ne (b := 99) (by omega)]
      refine ⟨upd1_two (fun e => (hmx k hk).1), ?_⟩
      by_cases e : k = zx a
      · rw [e, upd1_eq]
        exact hb.2
      · rw [upd1_ne e]
        exact (hmx k hk).2
    · rw [zu_ne1 (by omega), zu_ne2 (by omega)]
    · intro j _
      rw [zu_ne1 (by omega), zu_ne1 (by omega)]
theorem unA_cg {wo wm wo' wm' : Nat → Nat} {t : Nat} : ∀ m, (∀ k, k < m → wo' k = wo k ∧ wm' k = wm k) → unA wo' wm' t m = unA wo wm t m := by
  intro m
  induction m with
  | zero => intro _; rfl
  | succ m ih =>
    intro h
    unfold unA
    rw [ih (fun k hk => h k (by omega)), (h m (by omega)).1, (h m (by omega)).2]
theorem unA_s {wo wm : Nat → Nat} {t k : Nat} : unA wo wm t (k + 1) = unA wo wm t k ||| (if wo k = t then 2 ^ wm k else 0) := rfl
theorem k_umbrella (g : zg) (a b : Int32) {M : zM} (h : Inv g M.1) : OKc g (X_X11_umbrella g [.ref 0, .int a, .int b]) (X_X12_umbrella g [.ref 72, .int a, .int b]) M := by
  refine OK_sd h (fun n N hn hc hm hse hpo hmx hu => ?_)
  obtain ⟨m2, hs⟩ := hse
  obtain ⟨m3, hp⟩ := hpo
  obtain ⟨m, wo, wm, hu⟩ := hu
  have q1 := umbC_s g a b hn hu.1 hc hu.2.1
  have q2 := umbM_s g a b hn hu.1 hm hu.2.2.1
  by_cases h1 : a = -1
  · rw [if_pos h1] at q1 q2
    refine ⟨_, _, _, q1, q2, fun b hb => zu_ne (by omega), fun b u1 u => by rw [clrF_ne (by omega), zu_ne u, zu_ne u], fun b u => by rw [clrF_ne (by omega), zu_ne (by omega), zu_ne (by omega)], fun k u1 _ u2 _ => by rw [clrF_ne (by omega), zu_ne2 u2, zu_ne2 u1], ⟨m2, SE_x hs ?_ ?_ ?_ ?_⟩, ⟨m3, PO_x hp ?_ ?_ ?_ ?_⟩, MX_x hmx ?_ ?_, 0, wo, wm, by omega, zu_eq.trans rfl, ?_, fun k hk => absurd hk (by omega), ?_⟩
    · exact zu_ne2 (by omega)
    · intro j _
      exact zu_ne1 (by omega)
    · rw [clrF_ne (by omega), zu_ne2 (by omega), zu_ne2 (by omega)]
    · intro j _
      rw [clrF_ne (by omega), zu_ne1 (by omega), zu_ne1 (by omega)]
    · exact zu_ne2 (by omega)
    · intro j _
      exact ⟨zu_ne1 (by omega), zu_ne1 (by omega)⟩
    · rw [clrF_ne (by omega), zu_ne2 (by omega), zu_ne2 (by omega)]
    · intro j _
      exact ⟨by rw [clrF_ne (by omega), zu_ne1 (by omega), zu_ne1 (by omega)], by rw [clrF_ne (by omega), zu_ne1 (by omega), zu_ne1 (by omega)]⟩
    · intro j _
      exact zu_ne1 (by omega)
    · intro j _
      rw [clrF_ne (by omega), zu_ne1 (by omega), zu_ne1 (by omega)]
    · rw [clrF_ne (by omega), zu_eq]
      rfl
    · intro t ht
      rw [clrF_at, if_pos (by omega)]
      rfl
  · rw [if_neg h1] at q1 q2
    by_cases h2 : hsB (nI n) a = true ∧ inb b 0 11 = true ∧ m < 20
    · rw [if_pos h2] at q1 q2
      obtain ⟨t, ht, ea⟩ := hsB_ex hn h2.1
      obtain ⟨w, hw, eb⟩ := inb_ex (b := 11) (by omega) h2.2.1
      have hm20 := h2.2.2
      subst ea
      subst eb
      rw [zx_nI (by omega), one_sh (by omega), hu.2.2.2.2 t (by omega), nI_or] at q2
      refine ⟨_, _, _, q1, q2, fun b hb => by rw [zu_ne (by omega), zu_ne (by omega), zu_ne (by omega)], fun b _ u => by rw [zu_ne u, zu_ne (by omega), zu_ne u], fun b u => by rw [zu_ne (by omega), zu_ne (by omega), zu_ne (by omega)], fun k u1 _ u2 _ => by rw [zu_ne2 u2, zu_ne1 (by omega), zu_ne2 u1], ⟨m2, SE_x hs ?_ ?_ ?_ ?_⟩, ⟨m3, PO_x hp ?_ ?_ ?_ ?_⟩, MX_x hmx ?_ ?_, m + 1, (fun k => if k = m then t else wo k), (fun k => if k = m then w else wm k), by omega, zu_eq, zu_eq, ?_, ?_⟩
      · rw [zu_ne2 (by omega), zu_ne1 (by omega), zu_ne1 (by omega)]
      · intro j _
        rw [zu_ne1 (by omega), zu_ne1 (by omega), zu_ne1 (by omega)]
      · rw [zu_ne2 (by omega), zu_ne1 (by omega), zu_ne2 (by omega)]
      · intro j _
        rw [zu_ne1 (by omega), zu_ne1 (by omega), zu_ne1 (by omega)]
      · rw [zu_ne2 (by omega), zu_ne1 (by omega), zu_ne1 (by omega)]
      · intro j _
        exact ⟨by rw [zu_ne1 (by omega), zu_ne1 (by omega), zu_ne1 (by omega)], by rw [zu_ne1 (by omega), zu_ne1 (by omega), zu_ne1 (by omega)]⟩
      · rw [zu_ne2 (by omega), zu_ne1 (by omega), zu_ne2 (by omega)]
      · intro j _
        exact ⟨by rw [zu_ne1 (by omega), zu_ne1 (by omega), zu_ne1 (by omega)], by rw [zu_ne1 (by omega), zu_ne1 (by omega), zu_ne1 (by omega)]⟩
      · intro j _
        rw [zu_ne1 (by omega), zu_ne1 (by omega), zu_ne1 (by omega)]
      · intro j _
        rw [zu_ne1 (by omega), zu_ne1 (by omega), zu_ne1 (by omega)]
      · intro k hk
        rw [zu_ne1 (b := 34) (by omega), zu_ne1 (b := 34) (by omega), zu_upd (a := 34), zu_ne1 (b := 35) (by omega), zu_upd (a := 35), zu_ne (b := 35) (by omega)]
        by_cases e : k = m
        · subst e
          rw [upd1_eq, upd1_eq]
          simp only [if_pos]
          exact ⟨trivial, trivial, ht, by omega⟩
        · rw [upd1_ne e, upd1_ne e]
          simp only [if_neg e]
          exact hu.2.2.2.1 k (by omega)
      · intro t' ht'
        rw [unA_s, unA_cg (wo := wo) (wm := wm) m (fun k hk => ⟨if_neg (by omega), if_neg (by omega)⟩), zu_ne1 (by omega), zu_upd, zu_ne (b := 94) (by omega)]
        simp only [if_pos]
        by_cases e : t' = t
        · subst e
          rw [upd1_eq, if_pos rfl]
        · rw [upd1_ne e, if_neg (by omega), Nat.or_zero]
          exact hu.2.2.2.2 t' ht'
    · rw [if_neg h2] at q1 q2
      exact ⟨_, _, _, q1, q2, fun _ _ => rfl, fun b _ u => zu_ne u, fun b u => zu_ne (by omega), fun k u _ _ _ => zu_ne2 u, ⟨m2, SE_x hs rfl (fun _ _ => rfl) (zu_ne2 (by omega)) (fun _ _ => zu_ne1 (by omega))⟩, ⟨m3, PO_x hp rfl (fun _ _ => ⟨rfl, rfl⟩) (zu_ne2 (by omega)) (fun _ _ => ⟨zu_ne1 (by omega), zu_ne1 (by omega)⟩)⟩, MX_x hmx (fun _ _ => rfl) (fun _ _ => zu_ne1 (by omega)), m, wo, wm, UM_x hu rfl (fun _ _ => ⟨rfl, rfl⟩) (zu_ne2 (by omega)) (fun _ _ => zu_ne1 (by omega))⟩
theorem Inv_tp {g : zg} {I I' : zI} (h : Inv g I) {L : Nat} (ht : TPW L I') (hA : ∀ a, a ≠ 1 → a ≠ 2 → a ≠ 72 → a ≠ 79 → I' a = I a) (h72 : ∀ k, k ≠ 0 → k ≠ 13 → I' 72 k = I 72 k) (h1 : I' 1 6 = I 1 6 ∧ I' 1 7 = I 1 7) : Inv g I' := by
  obtain ⟨⟨n, s, nx, dd, ll, rf, c⟩, _, b3, b4, b5⟩ := h
  refine ⟨⟨n, s, nx, dd, ll, rf, CORE_x c (fun a ha => hA a (by omega) (by omega) (by omega) (by omega)) (fun a ha => hA a (by omega) (by omega) (by omega) (by omega)) (fun k hk => h72 k (by omega) (by omega))⟩, ⟨L, ht⟩, ?_, ?_, IMG_of b5 (h72 54 (by omega) (by omega)) (fun a u1 u2 => hA a (by omega) (by omega) (by omega) (by omega)) (hA 100 (by omega) (by omega) (by omega) (by omega))⟩
  · rw [h1.1, h1.2, h72 33 (by omega) (by omega), h72 34 (by omega) (by omega)]
    exact b3
  · rw [hA 40 (by omega) (by omega) (by omega) (by omega)]
    exact b4
theorem k_end (g : zg) (a : Int32) {M : zM} (h : Inv g M.1) : OKc g (X_X11_end g [.ref 0, .int a]) (X_X12_end g [.ref 72, .int a]) M := by
  obtain ⟨_, ⟨L, htw⟩, _⟩ := id h
  have ht := htw.1
  have q1 := endC_s g a M
  rw [ht.2.1] at q1
  cases hb : inb a 0 (nI L)
  · rw [hb, bif_f] at q1
    have q2 := endM_s g a M
    rw [ht.2.2.1, hb, bif_f] at q2
    exact OK_ro h q1 q2
  · rw [hb, bif_t] at q1
    obtain ⟨k, hk, e⟩ := inb_ex (by have := ht.1; omega) hb
    have q2 := endM_s g a ((zu M.1 1 5 a), M.2)
    dsimp only at q2
    rw [zu_ne1 (by omega), ht.2.2.1, hb, bif_t] at q2
    refine ⟨_, _, _, _, q1, q2, Inv_tp h (L := k) (TPW_end htw hk ?_ ?_ ?_ ?_ ?_) ?_ ?_ ?_⟩
    · rw [zu_ne1 (by omega), zu_ne1 (by omega), zu_eq]
      exact e
    · rw [zu_eq]
      exact e
    · rw [zu_ne (by omega), zu_ne (by omega), zu_ne (by omega)]
    · rw [zu_ne (by omega), zu_ne (by omega), zu_ne (by omega)]
    · rw [zu_ne (by omega), zu_ne (by omega), zu_ne (by omega)]
    · intro b u1 u2 u3 u4
      rw [zu_ne u3, zu_ne u3, zu_ne u1]
    · intro j u1 u2
      rw [zu_ne2 u2, zu_ne2 u1, zu_ne1 (by omega)]
    · constructor
      · rw [zu_ne1 (by omega), zu_ne1 (by omega), zu_ne2 (by omega)]
      · rw [zu_ne1 (by omega), zu_ne1 (by omega), zu_ne2 (by omega)]
theorem and255 (x : Int32) : ∃ b, b < 256 ∧ x &&& 255 = nI b := by
  refine ⟨(x &&& 255).toBitVec.toNat, ?_, ?_⟩
  · rw [Int32.toBitVec_and, BitVec.toNat_and]
    exact Nat.lt_of_le_of_lt Nat.and_le_right (by decide)
  · unfold nI
    apply Int32.toBitVec_inj.1
    rw [Int32.toBitVec_ofNat', BitVec.ofNat_toNat, BitVec.setWidth_eq]
/-- the class's five words and the reference's five, one by one -/
theorem TPx {L : Nat} {I J I' J' : zI} (h : L ≤ 400 ∧ I 1 5 = nI L ∧ J 72 13 = nI L ∧ ∀ k, k < L → I 2 k = J 79 k ∧ ∃ b, b < 256 ∧ I 2 k = nI b) (hL : L + 4 ≤ 400) (a : Int32) (e1 : I' = put4 I 2 1 5 L (fun s => (zushr a s) &&& 255)) (e2 : J' = put4 J 79 72 13 L (fun s => (a >>> (s &&& 31)) &&& 255)) : L + 4 ≤ 400 ∧ I' 1 5 = nI (L + 4) ∧ J' 72 13 = nI (L + 4) ∧ ∀ k, k < L + 4 → I' 2 k = J' 79 k ∧ ∃ b, b < 256 ∧ I' 2 k = nI b := by
  subst e1
  subst e2
  refine ⟨hL, put4_n, put4_n, ?_⟩
  rw [put4_row (by omega), put4_row (by omega)]
  intro k hk
  refine ⟨put4_alike (fun j hj => (h.2.2.2 j hj).1) (fun s hs => byte_eq a hs) k hk, ?_⟩
  unfold upd1
  by_cases k3 : k = L + 3
  · rw [if_pos k3]
    exact and255 _
  · by_cases k2 : k = L + 2
    · rw [if_neg k3, if_pos k2]
      exact and255 _
    · by_cases k1 : k = L + 1
      · rw [if_neg k3, if_neg k2, if_pos k1]
        exact and255 _
      · by_cases k0 : k = L
        · rw [if_neg k3, if_neg k2, if_neg k1, if_pos k0]
          exact and255 _
        · rw [if_neg k3, if_neg k2, if_neg k1, if_neg k0]
          exact (h.2.2.2 k (by omega)).2
theorem feedC_ne {I : zI} {L a : Nat} {a1 a2 a3 a4 a5 : Int32} (h1 : a ≠ 1) (h2 : a ≠ 2) : feedC I L a1 a2 a3 a4 a5 a = I a := by
  unfold feedC
  rw [put4_ne h2 h1, put4_ne h2 h1, put4_ne h2 h1, put4_ne h2 h1, put4_ne h2 h1]
theorem feedC_f {I : zI} {L j : Nat} {a1 a2 a3 a4 a5 : Int32} (h : j ≠ 5) : feedC I L a1 a2 a3 a4 a5 1 j = I 1 j := by
  unfold feedC
  rw [put4_f (by omega) h, put4_f (by omega) h, put4_f (by omega) h, put4_f (by omega) h, put4_f (by omega) h]
theorem feedM_ne {I : zI} {L a : Nat} {a1 a2 a3 a4 a5 : Int32} (h1 : a ≠ 72) (h2 : a ≠ 79) : feedM I L a1 a2 a3 a4 a5 a = I a := by
  unfold feedM
  rw [put4_ne h2 h1, put4_ne h2 h1, put4_ne h2 h1, put4_ne h2 h1, put4_ne h2 h1]
theorem feedM_f {I : zI} {L j : Nat} {a1 a2 a3 a4 a5 : Int32} (h : j ≠ 13) : feedM I L a1 a2 a3 a4 a5 72 j = I 72 j := by
  unfold feedM
  rw [put4_f (by omega) h, put4_f (by omega) h, put4_f (by omega) h, put4_f (by omega) h, put4_f (by omega) h]
theorem k_feed (g : zg) (a1 a2 a3 a4 a5 : Int32) {M : zM} (h : Inv g M.1) : OKc g (X_X11_feed g [.ref 0, .int a1, .int a2, .int a3, .int a4, .int a5]) (X_X12_feed g [.ref 72, .int a1, .int a2, .int a3, .int a4, .int a5]) M := by
  obtain ⟨_, ⟨L, htw⟩, _⟩ := id h
  have ht := htw.1
  have q1 := feedC_s g a1 a2 a3 a4 a5 ht.2.1 ht.1
  by_cases hL : L ≤ 380
  · rw [if_pos hL] at q1
    have q2 := feedM_s g a1 a2 a3 a4 a5 (M := (feedC M.1 L a1 a2 a3 a4 a5, M.2)) (L := L) (by dsimp only; rw [feedC_ne (by omega) (by omega)]; exact ht.2.2.1) ht.1
    rw [if_pos hL] at q2
    dsimp only at q2
    have x0 : L ≤ 400 ∧ M.1 1 5 = nI L ∧ (zu (feedC M.1 L a1 a2 a3 a4 a5) 72 0 0) 72 13 = nI L ∧ ∀ k, k < L → M.1 2 k = (zu (feedC M.1 L a1 a2 a3 a4 a5) 72 0 0) 79 k ∧ ∃ b, b < 256 ∧ M.1 2 k = nI b := by
      refine ⟨ht.1, ht.2.1, ?_, fun k hk => ?_⟩
      · rw [zu_ne2 (by omega), feedC_ne (by omega) (by omega)]
        exact ht.2.2.1
      · rw [zu_ne1 (by omega), feedC_ne (by omega) (by omega)]
        exact ⟨ht.2.2.2 k hk, htw.2.1 k hk⟩
    have x1 := TPx x0 (by omega) a1 rfl rfl
    have x2 := TPx x1 (by omega) a2 rfl rfl
    have x3 := TPx x2 (by omega) a3 rfl rfl
    have x4 := TPx x3 (by omega) a4 rfl rfl
    have x5 := TPx x4 (by omega) a5 rfl rfl
    refine ⟨_, _, _, _, q1, q2, Inv_tp h (L := L + 4 + 4 + 4 + 4 + 4) ⟨⟨x5.1, ?_, x5.2.2.1, fun k hk => ?_⟩, fun k hk => ?_, fun k hk => ?_⟩ ?_ ?_ ?_⟩
    · rw [feedM_ne (by omega) (by omega), zu_ne1 (by omega)]
      exact x5.2.1
    · refine Eq.trans ?_ (x5.2.2.2 k hk).1
      rw [feedM_ne (by omega) (by omega), zu_ne1 (by omega)]
      rfl
    · rw [feedM_ne (by omega) (by omega), zu_ne1 (by omega)]
      exact (x5.2.2.2 k hk).2
    · rw [feedM_ne (by omega) (by omega), zu_ne1 (by omega), feedC_ne (by omega) (by omega)]
      exact htw.2.2 k hk
    · intro b u1 u2 u3 u4
      rw [feedM_ne u3 u4, zu_ne u3, feedC_ne u1 u2]
    · intro j u1 u2
      rw [feedM_f u2, zu_ne2 u1, feedC_ne (by omega) (by omega)]
    · constructor
      · rw [feedM_ne (by omega) (by omega), zu_ne1 (by omega), feedC_f (by omega)]
      · rw [feedM_ne (by omega) (by omega), zu_ne1 (by omega), feedC_f (by omega)]
  · rw [if_neg hL] at q1
    have q2 := feedM_s g a1 a2 a3 a4 a5 ht.2.2.1 ht.1
    rw [if_neg hL] at q2
    exact OK_ro h q1 q2
