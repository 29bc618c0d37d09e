/-! PURE ROWS: the law read whole, on both sides -/
theorem ilw_0 (g : zg) {N : zM} (h : cEq (N.1 72 16) 2 = true → inb (N.1 72 17) 0 2 = false) : X_X12_isLineWord g [.ref 72] N = some (some (.int 0), N) := by
  rw [x_X12_isLineWord_0]
  cases e : cEq (N.1 72 16) 2
  · rfl
  · rw [bif_t, isIn_s, zbI_s, h e]
    rfl
def LawR (g : zg) (k : Nat) (M N : zM) : Prop := ∃ ok v I' J', zX (t_X4_read g) 18 [some (.ref 56), some (.ref 1), some (.int (nI k))] [] M = some (some (.int (b01 ok)), (I', M.2)) ∧ zX (t_X12_readLaw g) 2 [some (.ref 72), some (.int (nI k)), none] [] N = some (some (.int v), (J', N.2)) ∧ LFc M.1 I' ∧ LFm N.1 J' ∧ (ok = false → v = -1 ∧ FL I' J') ∧ (ok = true → (I' 1 6 = 0 ∧ I' 1 7 = -1) ∧ ∃ k' s' wd fr wh en, v = nI k' ∧ LLS k' s' wd fr wh en I' J')
theorem laws_al (g : zg) {f : Nat → Int32} {L m : Nat} (n : Nat) : ∀ (k c s : Nat) (wd fr wh en : Nat → Nat) (M N : zM), k + n = 16 → TKS 0 f L c m M.1 N.1 → LLS k s wd fr wh en M.1 N.1 → s ≤ c → LawR g k M N := by
  have stp : ∀ (k c s : Nat) (wd fr wh en : Nat → Nat) (M N : zM), k ≤ 16 → TKS 0 f L c m M.1 N.1 → LLS k s wd fr wh en M.1 N.1 → s ≤ c → (k < 16 → ∀ (c2 s2 : Nat) (wd2 fr2 wh2 en2 : Nat → Nat) (M2 N2 : zM), TKS 0 f L c2 m M2.1 N2.1 → LLS (k + 1) s2 wd2 fr2 wh2 en2 M2.1 N2.1 → s2 ≤ c2 → LawR g (k + 1) M2 N2) → LawR g k M N := by
    intro k c s wd fr wh en M N hk h hs hsc IH
    have c18 := e_X4_read_18 g (nI k) M
    rw [show cGt (nI k) 16 = false from by rw [show (16 : Int32) = nI 16 from rfl, cGt_nI (by omega) (by omega), decide_eq_false (by omega)], bif_f, tokenC_s g h, zbI_s, nI_s1] at c18
    have rf := e_X12_readLaw_2 g (nI k) N
    have tr := (TKS_r (by omega) h).1
    have te := TKR_end (by omega) tr
    have bad : ∀ a : Int32, X_X4_readLine g [.ref 56, .ref 1] M = (zbI (X_X9_refuse g [.ref 1, .int a] M) (fun x2 M2 => (bif cEq (x2 &&& 1) x2 then some (some (Value.int x2), M2) else none))) → ¬ M.1 3 c = 0 → zX (t_X12_readLaw g) 2 [some (.ref 72), some (.int (nI k)), none] [] N = (zbI (X_X12_errs g [.ref 72, .int a] N) (fun x2 M2 => some (some (Value.int x2), M2))) → LawR g k M N := by
      intro a e1 e2 e3
      obtain ⟨f1, f2, f3⟩ := fl_al (I := M.1) (J := N.1) a (nI (plS f L 0 c))
      rw [cEq0_n e2, bif_f, e1, refuC_s g (j := 0) (by omega) h, zbI_s] at c18
      rw [errsM_s g (j := 0) (by omega) h, zbI_s] at e3
      exact ⟨false, -1, _, _, c18, e3, LFc_p f1, LFm_p f2, fun _ => ⟨rfl, f3⟩, fun c => absurd c (by decide)⟩
    rcases lk0 tr with ⟨w, w1, w2, w3, w4⟩ | ⟨⟨n1, n2, n3⟩, w4⟩
    · have nz : ¬ M.1 3 c = 0 := by
        rw [w2]
        intro e
        exact absurd ((nI_eq (a := 137 + w) (b := 0) (by omega) (by omega)).1 e) (by omega)
      by_cases hk16 : k < 16
      · obtain ⟨ok, I1, J1, q1, q2, q3, q4, q5, q6⟩ := lline_al g h hs hsc hk16 w1 w2 w3 w4
        rw [cEq0_n nz, bif_f, q1, zbI_s, cEq0_b01] at c18
        cases ok
        · exact ⟨false, -1, I1, J1, c18, q2, q3, q4, fun _ => ⟨rfl, q5 rfl⟩, fun c => absurd c (by decide)⟩
        · obtain ⟨_, c', s', wd', fr', wh', en', y1, y2, y3, y4⟩ := q6 rfl
          obtain ⟨ok, v, I', J', z1, z2, z3, z4, z5, z6⟩ := IH hk16 c' s' wd' fr' wh' en' (I1, M.2) (J1, N.2) y1 y2 y3
          rw [Bool.not_true, bif_f] at c18
          rw [bif_t] at q2
          exact ⟨ok, v, I', J', c18.trans z1, q2.trans z2, LFc_t q3 z3, LFm_t q4 z4, z5, z6⟩
      · have e16 : k = 16 := by omega
        refine bad 3 ?_ nz ?_
        · rw [x_X4_readLine_0, tokenC_s g h, zbI_s, w2]
          have e32 : zX (t_X4_readLine g) 32 [some (.ref 56), some (.ref 1), some (.int (nI (137 + w)))] [] M = (zbI (X_X9_refuse g [.ref 1, .int 3] M) (fun x2 M2 => (bif cEq (x2 &&& 1) x2 then some (some (Value.int x2), M2) else none))) := by
            rw [e_X4_readLine_32, hs.2.1, show cLt (nI k) 16 = false from clF (c := 16) (n := 16) rfl (by omega) (by omega), bif_f]
          rw [e32]
          have e : w = 0 ∨ w = 1 ∨ w = 2 := by omega
          rcases e with e | e | e <;> rw [e] <;> rfl
        · rw [rf, show X_X12_isLineWord g [.ref 72] N = some (some (.int 1), N) from by
            rw [x_X12_isLineWord_0, w3, show cEq (2 : Int32) 2 = true from rfl, bif_t, isIn_s, zbI_s, w4, show inb (nI w) 0 2 = true from by
              have q := inb_nI (a := 0) (b := 2) (k := w) (by omega) (by omega) (by omega)
              rw [decide_eq_true (by omega), decide_eq_true (by omega)] at q
              exact q]
            rfl, zbI_s, show cEq0 (1 : Int32) = false from rfl, bif_f, show cEq (nI k) 16 = true from by rw [e16]; rfl, bif_t]
    · rw [ilw_0 g w4, zbI_s, show cEq0 (0 : Int32) = true from rfl, bif_t, te] at rf
      by_cases hT : M.1 3 c = 0
      · rw [cEq0_s hT, bif_t] at c18 rf
        exact ⟨true, nI k, M.1, N.1, c18, rf, LFc_p (PFc_r _), LFm_p (PFm_r _), fun c => absurd c (by decide), fun _ => ⟨h.1.2.2, k, s, wd, fr, wh, en, rfl, hs⟩⟩
      · rw [cEq0_n hT, bif_f] at rf
        refine bad 1 ?_ hT rf
        rw [x_X4_readLine_0, tokenC_s g h, zbI_s, cEq_n n1, bif_f, cEq_n n2, bif_f, cEq_n n3, bif_f]
  induction n with
  | zero =>
    intro k c s wd fr wh en M N hk h hs hsc
    exact stp k c s wd fr wh en M N (by omega) h hs hsc (fun u => absurd u (by omega))
  | succ n ih =>
    intro k c s wd fr wh en M N hk h hs hsc
    exact stp k c s wd fr wh en M N (by omega) h hs hsc (fun _ c2 s2 wd2 fr2 wh2 en2 M2 N2 u1 u2 u3 => ih (k + 1) c2 s2 wd2 fr2 wh2 en2 M2 N2 (by omega) u1 u2 u3)
theorem readL_al (g : zg) {L : Nat} {M N : zM} (hL : L ≤ 400) (h67 : M.1 1 6 = 0 ∧ M.1 1 7 = -1) (h5 : M.1 1 5 = nI L) (hby : ∀ k, k < L → ∃ b, b < 256 ∧ M.1 2 k = nI b) (he : ∀ k, k < L → M.1 2 k = N.1 79 k) (h13 : N.1 72 13 = nI L) (h14 : N.1 72 14 = 0) (h27 : N.1 72 27 = 0 ∧ N.1 72 28 = 0) (h80 : ∀ k, k < 125 → N.1 80 k = wtb k) : ∃ ok v I' J', X_X4_read g [.ref 56, .ref 1] M = some (some (.int (b01 ok)), (I', M.2)) ∧ zbV (X_X12_reads g [.ref 72] N) (fun M1 => X_X12_readLaw g [.ref 72] M1) = some (some (.int v), (J', N.2)) ∧ (∀ a, a ≠ 1 → a ≠ 3 → a ≠ 4 → a ≠ 5 → (a < 56 ∨ 61 < a) → I' a = M.1 a) ∧ (∀ k, k ≠ 4 → k ≠ 6 → k ≠ 7 → I' 1 k = M.1 1 k) ∧ LFm N.1 J' ∧ (ok = false → v = -1 ∧ FL I' J') ∧ (ok = true → (I' 1 6 = 0 ∧ I' 1 7 = -1) ∧ ∃ k' s' wd fr wh en, v = nI k' ∧ LLS k' s' wd fr wh en I' J') := by
  obtain ⟨I1, s1, s2, s3, s4, s5⟩ := spl0_s g hL hby h5
  have hb2 : ∀ k, k < L → ∃ b, b < 256 ∧ N.1 79 k = nI b := fun k hk => by rw [← he k hk]; exact hby k hk
  obtain ⟨J1, r1, r2, r3⟩ := rd_0 g (f := N.1 79) hL hb2 L 0 N (by omega) rfl h13 (h14.trans rfl) h80
  obtain ⟨m, tk⟩ := TKS_0 hL hb2 s4 (by rw [s3 6 (by omega), s3 7 (by omega)]; exact h67) (SPL_cg he s5) r3 (r2.1 79 (by omega)) ((r2.2 13 (by omega) (by omega) (by omega) (by omega)).trans h13) (fun k hk => by rw [r2.1 80 (by omega)]; exact h80 k hk)
  have rs : LLS 0 0 (fun _ => 0) (fun _ => 0) (fun _ => 0) (fun _ => 0) (zu (zu I1 56 8 0) 56 7 0) J1 := ⟨by omega, by rw [zu_ne2 (by omega), zu_eq]; rfl, ⟨by omega, zu_eq, (r2.2 27 (by omega) (by omega) (by omega) (by omega)).trans h27.1, fun j hj => absurd hj (by omega), fun j u1 u2 => absurd u2 (by omega)⟩, (r2.2 28 (by omega) (by omega) (by omega) (by omega)).trans h27.2, fun l hl => absurd hl (by omega)⟩
  obtain ⟨ok, v, I', J', q1, q2, q3, q4, q5, q6⟩ := laws_al g 16 0 0 0 (fun _ => 0) (fun _ => 0) (fun _ => 0) (fun _ => 0) ((zu (zu I1 56 8 0) 56 7 0), M.2) (J1, N.2) (by omega) (TKS_Ix (TKS_Ix tk (by omega)) (by omega)) rs (by omega)
  dsimp only at q1 q2 q3 q4
  refine ⟨ok, v, I', J', ?_, ?_, ?_, ?_, LFm_t (LFm_p (PFm_d r2)) q4, q5, q6⟩
  · rw [x_X4_read_0, s1, zbV_s]
    exact q1
  · rw [(x_X12_reads_0 g N).trans (e_X12_reads_0 g N).symm, r1, zbV_s, x_X12_readLaw_0]
    exact q2
  · intro a u1 u2 u3 u4 u5
    rw [q3.1 a u1 u5, zu_ne (by omega), zu_ne (by omega), s2 a u1 u2 u3 u4]
  · intro k u1 u2 u3
    rw [q3.2 k u1 u2 u3, zu_ne1 (by omega), zu_ne1 (by omega), s3 k u1]
/-! what was read is taken -/
theorem z16 (n : Nat) (i : Nat) : (nI n * 0 + nI i : Int32) = nI i := by
  rw [show (nI n * 0 : Int32) = 0 from Int32.mul_zero, Int32.zero_add]
theorem takL_107 (g : zg) {n s : Nat} (hs : s ≤ 400) (k : Nat) : ∀ (i : Nat) (N : zM), i + k = s → N.1 72 26 = 0 → N.1 72 27 = nI s → ∃ J', zX (t_X12_takesLaw g) 107 [some (.ref 72), some (.int (nI n)), some (.int (nI i))] [] N = some (none, (J', N.2)) ∧ (∀ a, a ≠ 81 → a ≠ 86 → a ≠ 87 → J' a = N.1 a) ∧ J' 81 0 = nI n ∧ ∀ a x, a = 86 ∨ a = 87 → J' a x = if i ≤ x ∧ x < s then N.1 a (800 + x) else N.1 a x := by
  induction k with
  | zero =>
    intro i N hi h26 h27
    refine ⟨(zu N.1 81 0 (nI n)), ?_, fun a u1 _ _ => zu_ne u1, zu_eq, fun a x u => ?_⟩
    · rw [e_X12_takesLaw_107, h27, cLtF (by omega) (by omega), bif_f, h26]
      rfl
    · rw [zu_ne1 (by omega), if_neg (by omega)]
  | succ k ih =>
    intro i N hi h26 h27
    obtain ⟨J', r1, r2, r3, r4⟩ := ih (i + 1) ((zu (zu N.1 86 i (N.1 86 (800 + i))) 87 i (N.1 87 (800 + i))), N.2) (by omega) (by dsimp only; rw [zu_ne1 (by omega), zu_ne1 (by omega)]; exact h26) (by dsimp only; rw [zu_ne1 (by omega), zu_ne1 (by omega)]; exact h27)
    dsimp only at r1 r2 r4
    refine ⟨J', ?_, fun a u1 u2 u3 => ?_, r3, fun a x u => ?_⟩
    · rw [e_X12_takesLaw_107, h27, cLtT (by omega) (by omega), bif_t, h26, show (800 : Int32) + nI i = nI (800 + i) from by rw [show (800 : Int32) = nI 800 from rfl, nI_ad2], show ((400 : Int32) * 0 + nI i) = nI i from z16 400 i, zb_nI (n := 800 + i) (by omega), decide_eq_true (p := 800 + i < 1200) (by omega), zb_nI (n := i) (by omega), decide_eq_true (p := i < 1200) (by omega), zx_nI (n := 800 + i) (by omega), zx_nI (n := i) (by omega), nI_s1]
      simp only [bif_t]
      exact r1
    · rw [r2 a u1 u2 u3, zu_ne u3, zu_ne u2]
    · rw [r4 a x u]
      have e : ∀ y, ¬ y = i → (zu (zu N.1 86 i (N.1 86 (800 + i))) 87 i (N.1 87 (800 + i))) a y = N.1 a y := by
        intro y hy
        rcases u with e | e
        · rw [e, zu_ne1 (by omega), zu_ne2 hy]
        · rw [e, zu_ne2 hy, zu_ne1 (by omega)]
      have e2 : (zu (zu N.1 86 i (N.1 86 (800 + i))) 87 i (N.1 87 (800 + i))) a i = N.1 a (800 + i) := by
        rcases u with e | e
        · rw [e, zu_ne1 (by omega), zu_eq]
        · rw [e, zu_eq]
      by_cases ex : x = i
      · subst ex
        rw [if_neg (by omega), e2, if_pos (by omega)]
      · by_cases e3 : i + 1 ≤ x ∧ x < s
        · rw [if_pos e3, e _ (by omega), if_pos (by omega)]
        · rw [if_neg e3, e x ex, if_neg (by omega)]
theorem takL_2 (g : zg) {n : Nat} (hn : n ≤ 16) (k : Nat) : ∀ (i : Nat) (N : zM), i + k = n → N.1 72 26 = 0 → ∃ J', zX (t_X12_takesLaw g) 2 [some (.ref 72), some (.int (nI n)), some (.int (nI i))] [] N = zX (t_X12_takesLaw g) 107 [some (.ref 72), some (.int (nI n)), some (.int (nI 0))] [] (J', N.2) ∧ (∀ a, (a < 82 ∨ 85 < a) → J' a = N.1 a) ∧ ∀ a x, 82 ≤ a → a ≤ 85 → J' a x = if i ≤ x ∧ x < n then N.1 a (32 + x) else N.1 a x := by
  induction k with
  | zero =>
    intro i N hi h26
    refine ⟨N.1, ?_, fun _ _ => rfl, fun a x u1 u2 => by rw [if_neg (by omega)]⟩
    rw [e_X12_takesLaw_2, cLtF (by omega) (by omega), bif_f]
    rfl
  | succ k ih =>
    intro i N hi h26
    obtain ⟨J', r1, r2, r4⟩ := ih (i + 1) ((zu (zu (zu (zu N.1 82 i (N.1 82 (32 + i))) 83 i (N.1 83 (32 + i))) 84 i (N.1 84 (32 + i))) 85 i (N.1 85 (32 + i))), N.2) (by omega) (by dsimp only; rw [zu_ne1 (by omega), zu_ne1 (by omega), zu_ne1 (by omega), zu_ne1 (by omega)]; exact h26)
    dsimp only at r1 r2 r4
    refine ⟨J', ?_, fun a u => ?_, fun a x u1 u2 => ?_⟩
    · rw [e_X12_takesLaw_2, cLtT (by omega) (by omega), bif_t, h26, show (32 : Int32) + nI i = nI (32 + i) from by rw [show (32 : Int32) = nI 32 from rfl, nI_ad2], show ((16 : Int32) * 0 + nI i) = nI i from z16 16 i, zb_nI (n := 32 + i) (by omega), decide_eq_true (p := 32 + i < 48) (by omega), zb_nI (n := i) (by omega), decide_eq_true (p := i < 48) (by omega), zx_nI (n := 32 + i) (by omega), zx_nI (n := i) (by omega), nI_s1]
      simp only [bif_t]
      exact r1
    · rw [r2 a u, zu_ne (by omega), zu_ne (by omega), zu_ne (by omega), zu_ne (by omega)]
    · rw [r4 a x u1 u2]
      have ua : a = 82 ∨ a = 83 ∨ a = 84 ∨ a = 85 := by omega
      have e : ∀ y, ¬ y = i → (zu (zu (zu (zu N.1 82 i (N.1 82 (32 + i))) 83 i (N.1 83 (32 + i))) 84 i (N.1 84 (32 + i))) 85 i (N.1 85 (32 + i))) a y = N.1 a y := by
        intro y hy
        rcases ua with e | e | e | e
        · rw [e, zu_ne1 (by omega), zu_ne1 (by omega), zu_ne1 (by omega), zu_ne2 hy]
        · rw [e, zu_ne1 (by omega), zu_ne1 (by omega), zu_ne2 hy, zu_ne1 (by omega)]
        · rw [e, zu_ne1 (by omega), zu_ne2 hy, zu_ne1 (by omega), zu_ne1 (by omega)]
        · rw [e, zu_ne2 hy, zu_ne1 (by omega), zu_ne1 (by omega), zu_ne1 (by omega)]
      have e2 : (zu (zu (zu (zu N.1 82 i (N.1 82 (32 + i))) 83 i (N.1 83 (32 + i))) 84 i (N.1 84 (32 + i))) 85 i (N.1 85 (32 + i))) a i = N.1 a (32 + i) := by
        rcases ua with e | e | e | e
        · rw [e, zu_ne1 (by omega), zu_ne1 (by omega), zu_ne1 (by omega), zu_eq]
        · rw [e, zu_ne1 (by omega), zu_ne1 (by omega), zu_eq]
        · rw [e, zu_ne1 (by omega), zu_eq]
        · rw [e, zu_eq]
      by_cases ex : x = i
      · subst ex
        rw [if_neg (by omega), e2, if_pos (by omega)]
      · by_cases e3 : i + 1 ≤ x ∧ x < n
        · rw [if_pos e3, e _ (by omega), if_pos (by omega)]
        · rw [if_neg e3, e x ex, if_neg (by omega)]
