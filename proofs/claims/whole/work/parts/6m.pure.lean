/-! PURE ROWS: rounds read on both sides -/
def RS (n : Nat) (la : Nat → Nat) (mv : Nat → Int32) (I J : zI) : Prop := n ≤ 12 ∧ I 64 3 = nI n ∧ I 64 2 = nI (sF la n 0) ∧ ∀ i, i < n → (1 ≤ la i ∧ la i ≤ 30) ∧ I 65 i = nI (la i) ∧ J 89 (24 + 2 * i) = nI (la i) ∧ I 66 i = mv i ∧ J 89 (24 + 2 * i + 1) = mv i
def RFc (I I' : zI) : Prop := (∀ a, a ≠ 1 → a ≠ 64 → a ≠ 65 → a ≠ 66 → I' a = I a) ∧ ∀ k, k ≠ 4 → k ≠ 6 → k ≠ 7 → I' 1 k = I 1 k
def RFm (J J' : zI) : Prop := (∀ a, a ≠ 72 → a ≠ 89 → J' a = J a) ∧ (∀ k, k < 24 → J' 89 k = J 89 k) ∧ ∀ k, k ≠ 14 → k ≠ 15 → k ≠ 16 → k ≠ 17 → k ≠ 31 → k ≠ 32 → J' 72 k = J 72 k
theorem RFc_p {I I' : zI} (h : PFc I I') : RFc I I' := ⟨fun a u1 _ _ _ => h.1 a u1, h.2⟩
theorem RFm_p {J J' : zI} (h : PFm J J') : RFm J J' := ⟨fun a u1 _ => h.1 a u1, fun k _ => by rw [h.1 89 (by omega)], h.2⟩
theorem RFc_t {I I' I'' : zI} (h : RFc I I') (h' : RFc I' I'') : RFc I I'' := ⟨fun a u1 u2 u3 u4 => (h'.1 a u1 u2 u3 u4).trans (h.1 a u1 u2 u3 u4), fun k u1 u2 u3 => (h'.2 k u1 u2 u3).trans (h.2 k u1 u2 u3)⟩
theorem RFm_t {J J' J'' : zI} (h : RFm J J') (h' : RFm J' J'') : RFm J J'' := ⟨fun a u1 u2 => (h'.1 a u1 u2).trans (h.1 a u1 u2), fun k hk => (h'.2.1 k hk).trans (h.2.1 k hk), fun k u1 u2 u3 u4 u5 u6 => (h'.2.2 k u1 u2 u3 u4 u5 u6).trans (h.2.2 k u1 u2 u3 u4 u5 u6)⟩
theorem RFm_u {J : zI} {k : Nat} {v : Int32} (hk : 24 ≤ k) : RFm J (zu J 89 k v) := ⟨fun a _ u => zu_ne u, fun i hi => zu_ne2 (by omega), fun i _ _ _ _ _ _ => zu_ne1 (by omega)⟩
theorem RFc_u {I : zI} {a k : Nat} {v : Int32} (ha : a = 64 ∨ a = 65 ∨ a = 66) : RFc I (zu I a k v) := ⟨fun b _ u1 u2 u3 => zu_ne (by omega), fun i _ _ _ => zu_ne1 (by omega)⟩
theorem TKS_J89 {j : Nat} {f : Nat → Int32} {L c m k : Nat} {v : Int32} {I J : zI} (h : TKS j f L c m I J) : TKS j f L c m I (zu J 89 k v) := TKS_of h rfl rfl rfl rfl (fun _ _ _ => zu_ne1 (by omega)) (zu_ne (by omega)) (zu_ne (by omega))
theorem TKS_Ix {j : Nat} {f : Nat → Int32} {L c m a k : Nat} {v : Int32} {I J : zI} (h : TKS j f L c m I J) (ha : 5 < a) : TKS j f L c m (zu I a k v) J := TKS_of h (zu_ne (by omega)) (zu_ne (by omega)) (zu_ne (by omega)) (zu_ne (by omega)) (fun _ _ _ => rfl) rfl rfl
theorem sF_r {la : Nat → Nat} : ∀ n i, sF la (n + 1) i = sF la n i + la (i + n) := by
  intro n
  induction n with
  | zero => intro i; simp [sF]
  | succ n ih =>
    intro i
    show la i + sF la (n + 1) (i + 1) = la i + sF la n (i + 1) + la (i + (n + 1))
    rw [ih (i + 1), show i + 1 + n = i + (n + 1) from by omega]
    omega
theorem sF_cg {la lb : Nat → Nat} : ∀ n i, (∀ k, i ≤ k → k < i + n → la k = lb k) → sF la n i = sF lb n i := by
  intro n
  induction n with
  | zero => intro i _; rfl
  | succ n ih =>
    intro i h
    show la i + sF la n (i + 1) = lb i + sF lb n (i + 1)
    rw [h i (by omega) (by omega), ih (i + 1) (fun k u1 u2 => h k (by omega) (by omega))]
theorem nI_nm1 {w : Nat} (hw : w < 10000) : cEq (nI w) (-1) = false := by
  refine cEq_n (fun e => ?_)
  have z := congrArg (fun x => cLt0 x) e
  rw [cLt0_nI (by omega)] at z
  exact absurd z (by decide)
/-- from the way on: rise or fall, how much, the end of the line -/
theorem rline_al (g : zg) {f : Nat → Int32} {L c m n w : Nat} {la : Nat → Nat} {mv : Nat → Int32} {up : Bool} {M N : zM} (h : TKS 1 f L c m M.1 N.1) (hs : RS n la mv M.1 N.1) (hn : n < 12) (hw : 1 ≤ w ∧ w ≤ 30) (hT : M.1 3 c = bif up then 129 else 130) (h89 : N.1 89 (24 + 2 * n) = nI w) : ∃ ok I' J', zX (t_X7_readLine g) 77 [some (.ref 64), some (.ref 1), some (.int (nI w)), some (.int (bif up then 129 else 130)), none] [] M = some (some (.int (b01 ok)), (I', M.2)) ∧ zX (t_X12_readRound g) 53 [some (.ref 72), some (.int (nI (24 + 2 * n))), some (.int (b01 up)), none] [] N = some (some (.int (bif ok then 0 else -1)), (J', N.2)) ∧ RFc M.1 I' ∧ RFm N.1 J' ∧ (ok = false → FL I' J') ∧ (ok = true → ∃ c' la' mv', TKS 1 f L c' m I' J' ∧ RS (n + 1) la' mv' I' J') := by
  obtain ⟨s1, s2⟩ := stepC_s g (by omega) h (by rw [hT]; cases up <;> decide)
  obtain ⟨J0, r1, r2, r3⟩ := readsM_s g h s1
  obtain ⟨v, I1, J1, q1, q2, q3, q4, q5⟩ := num_al g (M := ((zu M.1 1 4 (nI (c + 1))), M.2)) (N := (J0, N.2)) (by omega) r3 0 40
  dsimp only at q1 q2 q3 q4
  have fc : PFc M.1 I1 := PFc_t (PFc_u (by omega)) q3
  have fm : PFm N.1 J1 := PFm_t (PFm_d r2) q4
  rcases q5 with ⟨hv, q5⟩ | ⟨x, x1, x2, x3, q5⟩
  · subst hv
    refine ⟨false, I1, J1, ?_, ?_, RFc_p fc, RFm_p fm, fun _ => q5, fun c => absurd c (by decide)⟩
    · rw [e_X7_readLine_77, s2, zbV_s, q1, zbI_s, show cEq (-1 : Int32) (-1) = true from cEq_s rfl, bif_t]
      rfl
    · rw [e_X12_readRound_53, r1, zbV_s, q2, zbI_s, show cEq (-1 : Int32) (-1) = true from cEq_s rfl, bif_t]
      rfl
  · subst x2
    obtain ⟨z1, z2, z3, z4⟩ := hs
    have e643 : I1 64 3 = nI n := by rw [fc.1 64 (by omega)]; exact z2
    have e642 : I1 64 2 = nI (sF la n 0) := by rw [fc.1 64 (by omega)]; exact z3
    have tk : TKS 1 f L (c + 1 + 1) m (zu (zu (zu (zu I1 65 n (nI w)) 66 n (bif up then nI x else -nI x)) 64 2 (nI (sF la n 0 + w))) 64 3 (nI (n + 1))) (zu J1 89 (24 + 2 * n + 1) (bif up then nI x else -nI x)) := TKS_J89 (TKS_Ix (TKS_Ix (TKS_Ix (TKS_Ix q5 (by omega)) (by omega)) (by omega)) (by omega))
    obtain ⟨ok, I', J', p1, p2, p3, p4, p5, p6⟩ := mark_al g (M := ((zu (zu (zu (zu I1 65 n (nI w)) 66 n (bif up then nI x else -nI x)) 64 2 (nI (sF la n 0 + w))) 64 3 (nI (n + 1))), M.2)) (N := ((zu J1 89 (24 + 2 * n + 1) (bif up then nI x else -nI x)), N.2)) (s := 59) (by omega) tk (by decide)
    dsimp only at p1 p2 p3 p4
    refine ⟨ok, I', J', ?_, ?_, RFc_t (RFc_p fc) (RFc_t (RFc_u (by omega)) (RFc_t (RFc_u (by omega)) (RFc_t (RFc_u (by omega)) (RFc_t (RFc_u (by omega)) (RFc_p p3))))), RFm_t (RFm_p fm) (RFm_t (RFm_u (by omega)) (RFm_p p4)), p5, fun hok => ⟨c + 1 + 1 + 1, (fun i => if i = n then w else la i), (fun i => if i = n then (bif up then nI x else -nI x) else mv i), p6 hok, by omega, ?_, ?_, ?_⟩⟩
    · rw [e_X7_readLine_77, s2, zbV_s, q1, zbI_s, nI_nm1 x1, bif_f]
      dsimp only
      rw [e643, e642, zb_nI (by omega), decide_eq_true (by omega), zx_nI (by omega), nI_ad2, nI_s1]
      simp only [bif_t]
      cases up
      · rw [show cEq (bif false then (129 : Int32) else 130) 129 = false from rfl, bif_f]
        rw [bif_f] at p1
        rw [p1, zbI_s, b01_and1, bif_t]
      · rw [show cEq (bif true then (129 : Int32) else 130) 129 = true from rfl, bif_t]
        rw [bif_t] at p1
        rw [p1, zbI_s, b01_and1, bif_t]
    · rw [e_X12_readRound_53, r1, zbV_s, q2, zbI_s, nI_nm1 x1, bif_f, cEq0_b01, nI_s1, zb_nI (by omega), decide_eq_true (by omega), zx_nI (by omega)]
      simp only [bif_t]
      cases up
      · rw [bif_f] at p2
        rw [Bool.not_false, bif_t, p2, zbI_s]
      · rw [bif_t] at p2
        rw [Bool.not_true, bif_f, p2, zbI_s]
    · rw [p3.1 64 (by omega), zu_eq]
    · rw [p3.1 64 (by omega), zu_ne2 (by omega), zu_eq, sF_r, Nat.zero_add, if_pos rfl, sF_cg (lb := la) n 0 (fun k _ hk => if_neg (by omega))]
    · intro i hi
      rw [p3.1 65 (by omega), p3.1 66 (by omega), p4.1 89 (by omega), zu_ne1 (b := 65) (by omega), zu_ne1 (b := 65) (by omega), zu_ne1 (b := 65) (by omega), zu_ne1 (b := 66) (by omega), zu_ne1 (b := 66) (by omega)]
      by_cases e : i = n
      · subst e
        simp only [if_pos]
        refine ⟨hw, zu_eq, ?_, zu_eq, zu_eq⟩
        rw [zu_ne2 (by omega), fm.1 89 (by omega)]
        exact h89
      · simp only [if_neg e]
        rw [zu_ne2 e, zu_ne2 e, zu_ne2 (by omega), zu_ne2 (by omega), fc.1 65 (by omega), zu_ne1 (b := 66) (by omega), fc.1 66 (by omega), fm.1 89 (by omega)]
        exact z4 i (by omega)
