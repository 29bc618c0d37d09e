/-! PURE ROWS: leaks, whom to ask -/
theorem pc_cnt (s : Nat) : pcN s = cntF (fun t => bt10 s t) 10 0 := by
  rw [pc_bN]
  simp only [cntF, bN, Nat.zero_add]
  simp only [Nat.add_zero, Nat.add_assoc]
theorem as_38 (g : zg) {n b : Nat} {a1 a2 a3 : Int32} {u : Nat → Nat} {N : zM} (hn : n ≤ 10) (hm : N.1 72 6 = nI n) (hu : ∀ t, t < 10 → N.1 94 t = nI (u t) ∧ u t < 4096) (hb : b < 12) (f : Nat) : ∀ t c, t + f = n → zX (t_X12_askedBest g) 38 [some (.ref 72), some (.int a1), some (.int a2), some (.int a3), some (.int (nI b)), some (.int (nI c)), some (.int (nI t))] [] N = zX (t_X12_askedBest g) 38 [some (.ref 72), some (.int a1), some (.int a2), some (.int a3), some (.int (nI b)), some (.int (nI (c + cntF (fun t => bt10 (u t) b) f t))), some (.int (nI n))] [] N := by
  induction f with
  | zero => intro t c ht; rw [show t = n by omega]; rfl
  | succ f ih =>
    intro t c ht
    obtain ⟨e1, e2⟩ := hu t (by omega)
    rw [e_X12_askedBest_38, hm, cLtT (by omega) (by omega), bif_t, zbT (by omega) (by omega), bif_t, zx_nI (by omega), e1, has_s g (by omega) (by omega), zbI_s, cEq0_b01, nI_s1, nI_s1, cntF_s]
    cases bt10 (u t) b
    · rw [Bool.not_false, bif_t, ih (t + 1) c (by omega)]
      simp
    · rw [Bool.not_true, bif_f, ih (t + 1) (c + 1) (by omega)]
      simp [Nat.add_assoc]
/-- the greater part behind asking b -/
def grN (al tb : Nat) : Nat := max tb (al - tb)
theorem max_nI (a b : Nat) (ha : a < 100) (hb : b < 100) : (bif cLt (nI a) (nI b) then nI b else nI a) = nI (max a b) ∧ (bif cGt (nI a) (nI b) then nI a else nI b) = nI (max a b) := by
  rw [cLt_nI (by omega) (by omega), cGt_nI (by omega) (by omega)]
  by_cases h : a < b
  · rw [decide_eq_true h, decide_eq_false (by omega), bif_t, bif_f, Nat.max_eq_right (by omega)]
    exact ⟨rfl, rfl⟩
  · rw [decide_eq_false h, bif_f]
    by_cases h2 : b < a
    · rw [decide_eq_true h2, bif_t, Nat.max_eq_left (by omega)]
      exact ⟨rfl, rfl⟩
    · have : a = b := by omega
      subst this
      rw [decide_eq_false h2, bif_f, Nat.max_self]
      exact ⟨rfl, rfl⟩
/-- the best to ask, b and what is behind it; bs the best ahead of them, ls its greater part -/
def bsF (al : Nat) (tb : Nat → Nat) : Nat → Nat → Nat → Nat → Nat
  | 0, _, bs, _ => bs
  | f + 1, b, bs, ls => bsF al tb f (b + 1) (if grN al (tb b) < ls then b else bs) (if grN al (tb b) < ls then grN al (tb b) else ls)
theorem bta_20 (g : zg) {m n al : Nat} {wo wm : Nat → Nat} {J : zI} {M : zM} (h : UM m n wo wm M.1 J) (hn : n ≤ 10) (hal : al ≤ 10) (htb : ∀ b, b < 12 → pcN (tlA wo wm (some b) m) ≤ al) (f : Nat) : ∀ b bs ls, b + f = 12 → bs < 12 → ls < 100 → zX (t_X6_bestToAsk g) 20 [some (.ref 32), some (.int (nI al)), some (.int (nI bs)), some (.int (nI ls)), some (.int (nI b)), none, none] [] M = some (some (.int (nI (bsF al (fun b => pcN (tlA wo wm (some b) m)) f b bs ls))), M) := by
  induction f with
  | zero =>
    intro b bs ls hb _ _
    rw [e_X6_bestToAsk_20, cLtLF (N := 12) (by omega) (by omega), bif_f]
    rfl
  | succ f ih =>
    intro b bs ls hb hbs hls
    have ht := htb b (by omega)
    have e := tellers_s g h hn (some b) (fun b' e => by cases e; omega)
    have eb : bI (some b) = nI b := rfl
    rw [eb] at e
    have hg : grN al (pcN (tlA wo wm (some b) m)) ≤ 10 := by unfold grN; omega
    rw [e_X6_bestToAsk_20, cLtLT (N := 12) (by omega) (by omega), bif_t, e, zbI_s, nI_sub ht, max_s, zbI_s, (max_nI _ _ (by omega) (by omega)).1, cEq_n (nI_ne1 (by omega)), bif_f, nI_s1]
    show _ = some (some (Value.int (nI (bsF al (fun b => pcN (tlA wo wm (some b) m)) f (b + 1) (if grN al (pcN (tlA wo wm (some b) m)) < ls then b else bs) (if grN al (pcN (tlA wo wm (some b) m)) < ls then grN al (pcN (tlA wo wm (some b) m)) else ls)))), M)
    have eg : max (pcN (tlA wo wm (some b) m)) (al - pcN (tlA wo wm (some b) m)) = grN al (pcN (tlA wo wm (some b) m)) := rfl
    rw [eg]
    by_cases hq : grN al (pcN (tlA wo wm (some b) m)) < ls
    · rw [cLtT hq (by omega), bif_t, if_pos hq, if_pos hq]
      exact ih (b + 1) b _ (by omega) (by omega) (by omega)
    · rw [cLtF (by omega) (by omega), bif_f, if_neg hq, if_neg hq]
      exact ih (b + 1) bs ls (by omega) hbs hls
theorem asM_25 (g : zg) {n al : Nat} {u tb : Nat → Nat} {N : zM} (hn : n ≤ 10) (hm : N.1 72 6 = nI n) (hu : ∀ t, t < 10 → N.1 94 t = nI (u t) ∧ u t < 4096) (hal : al ≤ 10) (htb : ∀ b, b < 12 → cntF (fun t => bt10 (u t) b) n 0 = tb b ∧ tb b ≤ al) (f : Nat) : ∀ b bs ls, b + f = 12 → ls ≤ 1000000 → zX (t_X12_askedBest g) 25 [some (.ref 72), some (.int (nI al)), some (.int (nI bs)), some (.int (nI ls)), some (.int (nI b)), none, none] [] N = some (some (.int (nI (bsF al tb f b bs ls))), N) := by
  induction f with
  | zero =>
    intro b bs ls hb _
    rw [e_X12_askedBest_25, cLtLF (N := 12) (by omega) (by omega), bif_f]
    rfl
  | succ f ih =>
    intro b bs ls hb hls
    obtain ⟨t1, t2⟩ := htb b (by omega)
    have e := as_38 g (a1 := nI al) (a2 := nI bs) (a3 := nI ls) hn hm hu (b := b) (by omega) n 0 0 (by omega)
    rw [Nat.zero_add, t1] at e
    have hg : grN al (tb b) ≤ 10 := by unfold grN; omega
    have eg : max (tb b) (al - tb b) = grN al (tb b) := rfl
    rw [e_X12_askedBest_25, cLtLT (N := 12) (by omega) (by omega), bif_t, show zX (t_X12_askedBest g) 38 [some (.ref 72), some (.int (nI al)), some (.int (nI bs)), some (.int (nI ls)), some (.int (nI b)), some (.int 0), some (.int 0)] [] N = _ from e, e_X12_askedBest_38, hm, cLtF (Nat.le_refl n) (by omega), bif_f, nI_sub t2, x_X12_greater_0, bif_push, (max_nI _ _ (by omega) (by omega)).2, zbI_s, eg, lesser_s, zbI_s, zbI_s, nI_s1]
    show _ = some (some (Value.int (nI (bsF al tb f (b + 1) (if grN al (tb b) < ls then b else bs) (if grN al (tb b) < ls then grN al (tb b) else ls)))), N)
    by_cases hq : grN al (tb b) < ls
    · rw [cLtT hq (by omega), bif_t, if_pos hq, if_pos hq, cLtF (a := ls) (b := grN al (tb b)) (by omega) (by omega), bif_f]
      exact ih (b + 1) b _ (by omega) (by omega)
    · rw [cLtF (a := grN al (tb b)) (b := ls) (by omega) (by omega), bif_f, if_neg hq, if_neg hq]
      by_cases hq2 : ls < grN al (tb b)
      · rw [cLtT hq2 (by omega), bif_t]
        exact ih (b + 1) bs ls (by omega) hls
      · rw [cLtF (a := ls) (b := grN al (tb b)) (by omega) (by omega), bif_f, show grN al (tb b) = ls by omega]
        exact ih (b + 1) bs ls (by omega) hls
/-- the answer of leaks 2 -/
def lk2A (wo wm : Nat → Nat) (m : Nat) : Int32 := if pcN (tlA wo wm none m) < 2 then -1 else nI (bsF (pcN (tlA wo wm none m)) (fun b => pcN (tlA wo wm (some b) m)) 12 0 0 1000000)
theorem tl_le {wo wm : Nat → Nat} {m n b : Nat} (hn : n ≤ 10) (hw : ∀ k, k < m → wo k < n) : pcN (tlA wo wm (some b) m) ≤ pcN (tlA wo wm none m) := by
  have h1 := tlA_lt (wo := wo) (wm := wm) (c := some b) m (fun k hk => by have := hw k hk; omega)
  have h2 := tlA_lt (wo := wo) (wm := wm) (c := none) m (fun k hk => by have := hw k hk; omega)
  refine (pc_sub h1 h2 ?_).1
  intro t ht
  obtain ⟨k, hk, e, _⟩ := (tl_bt t m).mp ht
  exact (tl_bt t m).mpr ⟨k, hk, e, fun b' e' => by cases e'⟩
theorem pc10 (s : Nat) : pcN s ≤ 10 := by unfold pcN; omega
theorem askC_s (g : zg) {m n : Nat} {wo wm : Nat → Nat} {J : zI} {M : zM} (h : UM m n wo wm M.1 J) (hn : n ≤ 10) : X_X6_bestToAsk g [.ref 32] M = some (some (.int (lk2A wo wm m)), M) := by
  have e := tellers_s g h hn none (fun b e => by cases e)
  have en : bI none = -1 := rfl
  rw [en] at e
  have hal := pc10 (tlA wo wm none m)
  unfold lk2A
  rw [x_X6_bestToAsk_0, e, zbI_s, cLt_lit (m := pcN (tlA wo wm none m)) (k := 2) (y := 2) (by omega) (by omega) rfl]
  by_cases h2 : pcN (tlA wo wm none m) < 2
  · rw [decide_eq_true h2, bif_t, if_pos h2]
  · rw [decide_eq_false h2, bif_f, if_neg h2]
    have htb : ∀ b, b < 12 → pcN (tlA wo wm (some b) m) ≤ pcN (tlA wo wm none m) := fun b _ => tl_le hn (fun k hk => (h.2.2.2.1 k hk).2.2.1)
    have e0 := tellers_s g h hn (some 0) (fun b' e => by cases e; omega)
    have eb : bI (some 0) = 0 := rfl
    rw [eb] at e0
    have ht := htb 0 (by omega)
    have eg : max (pcN (tlA wo wm (some 0) m)) (pcN (tlA wo wm none m) - pcN (tlA wo wm (some 0) m)) = grN (pcN (tlA wo wm none m)) (pcN (tlA wo wm (some 0) m)) := rfl
    have hg : grN (pcN (tlA wo wm none m)) (pcN (tlA wo wm (some 0) m)) ≤ 10 := by unfold grN; omega
    rw [e_X6_bestToAsk_20, show cLt (0 : Int32) 12 = true from by decide, bif_t, e0, zbI_s, nI_sub ht, max_s, zbI_s, (max_nI _ _ (by omega) (by omega)).1, show cEq (-1 : Int32) (-1) = true from by decide, bif_t, eg]
    have e1 := bta_20 g h hn hal htb 11 1 0 (grN (pcN (tlA wo wm none m)) (pcN (tlA wo wm (some 0) m))) (by omega) (by omega) (by omega)
    have stp : bsF (pcN (tlA wo wm none m)) (fun b => pcN (tlA wo wm (some b) m)) (11 + 1) 0 0 1000000 = bsF (pcN (tlA wo wm none m)) (fun b => pcN (tlA wo wm (some b) m)) 11 1 (if grN (pcN (tlA wo wm none m)) (pcN (tlA wo wm (some 0) m)) < 1000000 then 0 else 0) (if grN (pcN (tlA wo wm none m)) (pcN (tlA wo wm (some 0) m)) < 1000000 then grN (pcN (tlA wo wm none m)) (pcN (tlA wo wm (some 0) m)) else 1000000) := rfl
    rw [if_pos (by omega), if_pos (by omega)] at stp
    rw [show 12 = 11 + 1 from rfl, stp]
    exact e1
theorem askM_s (g : zg) {m n : Nat} {wo wm : Nat → Nat} {N : zM} {I : zI} (h : UM m n wo wm I N.1) (hn : n ≤ 10) (hm : N.1 72 6 = nI n) : X_X12_askedBest g [.ref 72] N = some (some (.int (lk2A wo wm m)), N) := by
  obtain ⟨b1, b2, b3, b4, b5⟩ := h
  have hul : ∀ t, unA wo wm t m < 4096 := fun t => unA_lt m (fun k hk => (b4 k hk).2.2.2)
  have hw : ∀ k, k < m → wo k < n := fun k hk => (b4 k hk).2.2.1
  have hu : ∀ t, t < 10 → N.1 94 t = nI (unA wo wm t m) ∧ unA wo wm t m < 4096 := fun t ht => ⟨b5 t ht, hul t⟩
  have hb := seF_set (p := fun t => !decide (unA wo wm t m = 0)) hn
  have es : toldN (fun t => unA wo wm t m) n = tlA wo wm none m := by
    apply bt_ext
    intro t
    unfold toldN
    rw [hb.2.2 t]
    cases ht : bt10 (tlA wo wm none m) t with
    | true =>
      obtain ⟨k, hk, e, _⟩ := (tl_bt t m).mp ht
      have h1 : ¬ unA wo wm t m = 0 := un_ne0.mpr ⟨k, hk, e⟩
      rw [decide_eq_false h1, decide_eq_true (show t < n by have := hw k hk; omega)]
      rfl
    | false =>
      by_cases h1 : unA wo wm t m = 0
      · rw [decide_eq_true h1, Bool.not_true, Bool.and_false]
      · obtain ⟨k, hk, e⟩ := un_ne0.mp h1
        have := (tl_bt (wo := wo) (wm := wm) (c := none) t m).mpr ⟨k, hk, e, fun b e' => by cases e'⟩
        rw [this] at ht
        cases ht
  have htb : ∀ b, b < 12 → cntF (fun t => bt10 (unA wo wm t m) b) n 0 = pcN (tlA wo wm (some b) m) ∧ pcN (tlA wo wm (some b) m) ≤ pcN (tlA wo wm none m) := by
    intro b _
    refine ⟨?_, tl_le hn hw⟩
    rw [pc_cnt]
    have e1 := cntF_add (fun t => bt10 (tlA wo wm (some b) m) t) n (10 - n) 0
    rw [show n + (10 - n) = 10 by omega] at e1
    have bits : ∀ t, bt10 (tlA wo wm (some b) m) t = bt10 (unA wo wm t m) b := by
      intro t
      cases h1 : bt10 (unA wo wm t m) b with
      | true =>
        obtain ⟨k, hk, e2, e3⟩ := (un_bt b m).mp h1
        exact (tl_bt t m).mpr ⟨k, hk, e2, fun b' e' => by cases e'; exact e3⟩
      | false =>
        cases h2 : bt10 (tlA wo wm (some b) m) t with
        | false => rfl
        | true =>
          obtain ⟨k, hk, e2, e3⟩ := (tl_bt t m).mp h2
          have := (un_bt (wo := wo) (wm := wm) (t := t) b m).mpr ⟨k, hk, e2, e3 b rfl⟩
          rw [this] at h1
          cases h1
    rw [e1, cntF_zero (p := fun t => bt10 (tlA wo wm (some b) m) t) (10 - n) (0 + n) (by
      intro j h1 h2
      rw [bits j, unA_0 (n := n) (by omega) m hw]
      exact bt_big (a := 0) (k := 0) (by omega) (by omega)), Nat.add_zero]
    apply cntF_ext
    intro j _ _
    exact (bits j).symm
  have hal := pc10 (tlA wo wm none m)
  have h10 := tlA_lt (wo := wo) (wm := wm) (c := none) m (fun k hk => by have := hw k hk; omega)
  unfold lk2A
  rw [x_X12_askedBest_0, told_s g hn hm hu, zbI_s, es, ones_s g h10, zbI_s, cLt_lit (m := pcN (tlA wo wm none m)) (k := 2) (y := 2) (by omega) (by omega) rfl]
  by_cases h2 : pcN (tlA wo wm none m) < 2
  · rw [decide_eq_true h2, bif_t, if_pos h2]
  · rw [decide_eq_false h2, bif_f, if_neg h2]
    exact asM_25 g (u := fun t => unA wo wm t m) (tb := fun b => pcN (tlA wo wm (some b) m)) hn hm hu hal htb 12 0 0 1000000 (by omega) (by omega)
/-- leaks answers, the reference -/
def leaA (wo wm : Nat → Nat) (m : Nat) (a1 a2 : Int32) : Int32 := bif cEq a2 2 then lk2A wo wm m else bif inb a1 0 4095 && inb a2 0 1 then lksA (fun t => unA wo wm t m) (zx a1) a2 else -1
theorem leaksM_s (g : zg) (a1 a2 : Int32) {m n : Nat} {wo wm : Nat → Nat} {N : zM} {I : zI} (h : UM m n wo wm I N.1) (hn : n ≤ 10) (hm : N.1 72 6 = nI n) : X_X12_leaks g [.ref 72, .int a1, .int a2] N = some (some (.int (leaA wo wm m a1 a2)), ((zu N.1 72 0 0), N.2)) := by
  have h' : UM m n wo wm I (zu N.1 72 0 0) := by
    obtain ⟨b1, b2, b3, b4, b5⟩ := h
    exact ⟨b1, b2, by rw [zu_ne2 (by omega)]; exact b3, b4, by rw [zu_ne (by omega)]; exact b5⟩
  have hm' : (((zu N.1 72 0 0), N.2) : zM).1 72 6 = nI n := by dsimp only; rw [zu_ne2 (by omega)]; exact hm
  have hul : ∀ t, unA wo wm t m < 4096 := fun t => unA_lt m (fun k hk => (h.2.2.2.1 k hk).2.2.2)
  have hw : ∀ k, k < m → wo k < n := fun k hk => (h.2.2.2.1 k hk).2.2.1
  have hu : ∀ t, t < 10 → (((zu N.1 72 0 0), N.2) : zM).1 94 t = nI (unA wo wm t m) ∧ unA wo wm t m < 4096 := fun t ht => ⟨h'.2.2.2.2 t ht, hul t⟩
  unfold leaA
  rw [x_X12_leaks_0]
  cases cEq a2 2
  · rw [bif_f, bif_f, isIn_s, zbI_s, cEq0_b01]
    cases h1 : inb a1 0 4095
    · rfl
    · rw [Bool.not_true, bif_f, isIn_s, zbI_s, cEq0_b01]
      cases h2 : inb a2 0 1
      · rfl
      · obtain ⟨tk, htk, rfl⟩ := inb_ex (b := 4095) (by omega) h1
        rw [Bool.not_true, bif_f, told_s g hn hm' hu, zbI_s, zx_nI (by omega), Bool.and_self, bif_t]
        exact leaksM_set g hn hm' hu hul (fun t ht => unA_0 ht m hw) (by omega)
  · rw [bif_t, bif_t, askM_s g (N := ((zu N.1 72 0 0), N.2)) h' hn hm', zbI_s]
