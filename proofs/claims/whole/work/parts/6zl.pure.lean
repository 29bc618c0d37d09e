/-! PURE ROWS: a line of the law read whole -/
def LKc (k : Nat) (I I' : zI) : Prop := ∀ l, l < k → I' 57 l = I 57 l ∧ I' 58 l = I 58 l ∧ I' 59 l = I 59 l ∧ I' 60 l = I 60 l
def LKm (k s : Nat) (J J' : zI) : Prop := (∀ l, l < k → J' 82 (32 + l) = J 82 (32 + l) ∧ J' 83 (32 + l) = J 83 (32 + l) ∧ J' 84 (32 + l) = J 84 (32 + l) ∧ J' 85 (32 + l) = J 85 (32 + l)) ∧ ∀ j, j < s → J' 86 (800 + j) = J 86 (800 + j) ∧ J' 87 (800 + j) = J 87 (800 + j)
theorem LKc_t {k : Nat} {I I' I'' : zI} (h : LKc k I I') (h' : LKc k I' I'') : LKc k I I'' := by
  intro l hl
  obtain ⟨a1, a2, a3, a4⟩ := h l hl
  obtain ⟨b1, b2, b3, b4⟩ := h' l hl
  exact ⟨b1.trans a1, b2.trans a2, b3.trans a3, b4.trans a4⟩
theorem LKm_t {k s s' : Nat} {J J' J'' : zI} (h : LKm k s J J') (h' : LKm k s' J' J'') (hs : s ≤ s') : LKm k s J J'' := by
  refine ⟨fun l hl => ?_, fun j hj => ?_⟩
  · obtain ⟨a1, a2, a3, a4⟩ := h.1 l hl
    obtain ⟨b1, b2, b3, b4⟩ := h'.1 l hl
    exact ⟨b1.trans a1, b2.trans a2, b3.trans a3, b4.trans a4⟩
  · obtain ⟨a1, a2⟩ := h.2 j hj
    obtain ⟨b1, b2⟩ := h'.2 j (by omega)
    exact ⟨b1.trans a1, b2.trans a2⟩
theorem LKc_r {k : Nat} {I I' : zI} (h : ∀ a, 57 ≤ a → a ≤ 60 → I' a = I a) : LKc k I I' := fun l _ => ⟨by rw [h 57 (by omega) (by omega)], by rw [h 58 (by omega) (by omega)], by rw [h 59 (by omega) (by omega)], by rw [h 60 (by omega) (by omega)]⟩
theorem LKc_u {k a : Nat} {I : zI} {v : Int32} : LKc k I (zu I a k v) := by
  have e : ∀ b l, l < k → zu I a k v b l = I b l := by
    intro b l hl
    by_cases e : b = a
    · subst e
      exact zu_ne2 (by omega)
    · exact zu_ne1 e
  exact fun l hl => ⟨e 57 l hl, e 58 l hl, e 59 l hl, e 60 l hl⟩
theorem LKm_u {k s a : Nat} {J : zI} {v : Int32} (ha : 82 ≤ a ∧ a ≤ 85) : LKm k s J (zu J a (32 + k) v) := by
  have e : ∀ b l, l < k → zu J a (32 + k) v b (32 + l) = J b (32 + l) := by
    intro b l hl
    by_cases e : b = a
    · subst e
      exact zu_ne2 (by omega)
    · exact zu_ne1 e
  exact ⟨fun l hl => ⟨e 82 l hl, e 83 l hl, e 84 l hl, e 85 l hl⟩, fun j _ => ⟨zu_ne1 (by omega), zu_ne1 (by omega)⟩⟩
theorem LKm_e {k s : Nat} {J J' : zI} (h : EFm s J J') : LKm k s J J' := ⟨fun l _ => ⟨by rw [h.1 82 (by omega) (by omega) (by omega) (by omega)], by rw [h.1 83 (by omega) (by omega) (by omega) (by omega)], by rw [h.1 84 (by omega) (by omega) (by omega) (by omega)], by rw [h.1 85 (by omega) (by omega) (by omega) (by omega)]⟩, fun j hj => h.2.2 (800 + j) (by omega)⟩
theorem LKc_g {k s : Nat} {I I' : zI} (h : GFc s I I') : LKc k I I' := LKc_r (fun a u1 u2 => h.1 a (by omega) (by omega) (by omega))
theorem LKm_p {k s : Nat} {J J' : zI} (h : PFm J J') : LKm k s J J' := LKm_e (EFm_g (GFm_p h))
def LnR (g : zg) (f : Nat → Int32) (L m c k : Nat) (M N : zM) : Prop := ∃ ok I' J', X_X4_readLine g [.ref 56, .ref 1] M = some (some (.int (b01 ok)), (I', M.2)) ∧ zX (t_X12_readLaw g) 2 [some (.ref 72), some (.int (nI k)), none] [] N = (bif ok then zX (t_X12_readLaw g) 2 [some (.ref 72), some (.int (nI (k + 1))), none] [] (J', N.2) else some (some (.int (-1)), (J', N.2))) ∧ LFc M.1 I' ∧ LFm N.1 J' ∧ (ok = false → FL I' J') ∧ (ok = true → k < 16 ∧ ∃ c' s' wd' fr' wh' en', TKS 0 f L c' m I' J' ∧ LLS (k + 1) s' wd' fr' wh' en' I' J' ∧ s' ≤ c' ∧ c < c')
/-- the end of a line, class and reference -/
noncomputable def lnC (g : zg) (M5 : zM) : Option (Option Value × zM) := (bif zb (M5.1 56 8) 16 then (zbI (X_X9_expect g [.ref 1, .int 59] ((zu (zu M5.1 60 (zx (M5.1 56 8)) (M5.1 56 7)) 56 8 ((M5.1 56 8) + 1)), M5.2)) (fun x6 M6 => (bif cEq (x6 &&& 1) x6 then some (some (.int x6), M6) else none))) else none)
noncomputable def lnM (g : zg) (k : Nat) (M6 : zM) : Option (Option Value × zM) := (zbI (X_X12_isSign g [.ref 72, .int 59] ((zu M6.1 85 (32 + k) (M6.1 72 27)), M6.2)) (fun x7 M7 => (bif cEq0 x7 then (zbI (X_X12_errs g [.ref 72, .int 1] M7) (fun x8 M8 => some (some (.int x8), M8))) else (zbV (X_X12_reads g [.ref 72] M7) (fun M9 => zX (t_X12_readLaw g) 2 [some (.ref 72), some (.int (nI (k + 1))), none] [] M9)))))
theorem lfin_al (g : zg) {f : Nat → Int32} {L m c k s s2 s3 c3 w : Nat} {wd fr wh en : Nat → Nat} {M N : zM} {I3 J3 : zI} (hk : k < 16) (hw : w < 3) (hs : LLS k s wd fr wh en M.1 N.1) (cl : X_X4_readLine g [.ref 56, .ref 1] M = lnC g (I3, M.2)) (rf : zX (t_X12_readLaw g) 2 [some (.ref 72), some (.int (nI k)), none] [] N = lnM g k (J3, N.2)) (fc : LFc M.1 I3) (fm : LFm N.1 J3) (kc : LKc k M.1 I3) (km : LKm k s N.1 J3) (h : TKS 0 f L c3 m I3 J3) (hl : LG s3 I3 J3) (h3 : s3 ≤ c3) (hc : c < c3) (h56 : I3 56 8 = nI k) (h28 : J3 72 28 = nI 0) (h57 : I3 57 k = nI (137 + w) ∧ J3 82 (32 + k) = nI w ∧ I3 58 k = nI s ∧ J3 83 (32 + k) = nI s ∧ I3 59 k = nI s2 ∧ J3 84 (32 + k) = nI s2) (hss : s ≤ s2 ∧ s2 ≤ s3) (ty1 : ∃ x, TY J3 s s2 [] [x]) (ty2 : s2 < s3 → TY J3 s2 s3 [] [1]) : LnR g f L m c k M N := by
  obtain ⟨p1, p2, p3, p4, p5, p6⟩ := h57
  have e7 : I3 56 7 = nI s3 := hl.2.1
  have e27 : J3 72 27 = nI s3 := hl.2.2.1
  unfold lnC at cl
  unfold lnM at rf
  dsimp only at cl rf
  rw [h56, e7, zb_nI (by omega), decide_eq_true (by omega), bif_t, zx_nI (by omega), nI_s1] at cl
  rw [e27] at rf
  have tk : TKS 0 f L c3 m (zu (zu I3 60 k (nI s3)) 56 8 (nI (k + 1))) (zu J3 85 (32 + k) (nI s3)) := TKS_E (TKS_Ix (TKS_Ix h (by omega)) (by omega)) (fun i _ _ => zu_ne1 (by omega)) (zu_ne (by omega)) (zu_ne (by omega))
  have i59 := isSignM_s g (j := 0) (by omega) (N := ((zu J3 85 (32 + k) (nI s3)), N.2)) tk (s := 59) (by decide)
  rw [i59, zbI_s, cEq0_b01] at rf
  have t3 : (zu (zu I3 60 k (nI s3)) 56 8 (nI (k + 1))) 3 c3 = I3 3 c3 := by rw [zu_ne1 (by omega), zu_ne1 (by omega)]
  have fc4 : LFc M.1 (zu (zu I3 60 k (nI s3)) 56 8 (nI (k + 1))) := LFc_t fc (LFc_t (LFc_u (by omega)) (LFc_u (by omega)))
  have fm4 : LFm N.1 (zu J3 85 (32 + k) (nI s3)) := LFm_t fm (LFm_u (by omega) (by omega))
  by_cases e : I3 3 c3 = 59
  · obtain ⟨k1, k2⟩ := expC_t g (j := 0) (M := ((zu (zu I3 60 k (nI s3)) 56 8 (nI (k + 1))), M.2)) (by omega) tk (t := 59) (by decide) (t3.trans e)
    obtain ⟨J5, r1, r2, r3⟩ := readsM_s g (N := ((zu J3 85 (32 + k) (nI s3)), N.2)) tk k1
    dsimp only at k2 r1 r2
    rw [k2, zbI_s] at cl
    rw [t3, cEq_s e, Bool.not_true, bif_f, r1, zbV_s] at rf
    have pf := PFm_d r2
    refine ⟨true, _, J5, cl, rf, LFc_t fc4 (LFc_p (PFc_u (by omega))), LFm_t fm4 (LFm_p pf), fun c => absurd c (by decide), fun _ => ⟨hk, c3 + 1, s3, (fun l => if l = k then w else wd l), (fun l => if l = k then s else fr l), (fun l => if l = k then s2 else wh l), (fun l => if l = k then s3 else en l), r3, ⟨by omega, ?_, ?_, ?_, fun l hl' => ?_⟩, by omega, by omega⟩⟩
    · rw [zu_ne1 (by omega), zu_eq]
    · refine LGq_x hl ?_ (fun j _ => ?_) ?_ (fun j _ => ?_)
      · rw [zu_ne1 (by omega), zu_ne2 (by omega), zu_ne1 (by omega)]
      · rw [zu_ne1 (by omega), zu_ne1 (by omega), zu_ne1 (by omega)]
      · rw [pf.2 27 (by omega) (by omega) (by omega) (by omega) (by omega) (by omega), zu_ne1 (by omega)]
      · rw [pf.1 86 (by omega), pf.1 87 (by omega)]
        exact ⟨zu_ne1 (by omega), zu_ne1 (by omega)⟩
    · rw [pf.2 28 (by omega) (by omega) (by omega) (by omega) (by omega) (by omega), zu_ne1 (by omega)]
      exact h28
    · have k5 : LKm k s (zu J3 85 (32 + k) (nI s3)) J5 := LKm_p pf
      have c5 : ∀ j, J5 86 j = J3 86 j ∧ J5 87 j = J3 87 j := by
        intro j
        rw [pf.1 86 (by omega), pf.1 87 (by omega)]
        exact ⟨zu_ne1 (by omega), zu_ne1 (by omega)⟩
      by_cases el : l = k
      · subst el
        unfold LLN
        dsimp only
        rw [if_pos rfl, if_pos rfl, if_pos rfl, if_pos rfl]
        rw [pf.1 82 (by omega), pf.1 83 (by omega), pf.1 84 (by omega), pf.1 85 (by omega)]
        refine ⟨⟨hw, ?_, ?_⟩, ⟨?_, ?_, ?_, ?_, ?_, ?_⟩, ⟨hss.1, hss.2, Nat.le_refl _⟩, ?_, fun u => TY_x (ty2 u) (fun j _ => c5 (800 + j))⟩
        · rw [zu_ne1 (by omega), zu_ne1 (by omega), zu_ne1 (by omega)]
          exact p1
        · rw [zu_ne1 (by omega)]
          exact p2
        · rw [zu_ne1 (by omega), zu_ne1 (by omega), zu_ne1 (by omega)]
          exact p3
        · rw [zu_ne1 (by omega)]
          exact p4
        · rw [zu_ne1 (by omega), zu_ne1 (by omega), zu_ne1 (by omega)]
          exact p5
        · rw [zu_ne1 (by omega)]
          exact p6
        · rw [zu_ne1 (by omega), zu_ne1 (by omega), zu_eq]
        · exact zu_eq
        · obtain ⟨x, y⟩ := ty1
          exact ⟨x, TY_x y (fun j _ => c5 (800 + j))⟩
      · have kI : LKc k M.1 (zu (zu (zu I3 60 k (nI s3)) 56 8 (nI (k + 1))) 1 4 (nI (c3 + 1))) := LKc_t kc (LKc_t LKc_u (LKc_t (LKc_r (fun a u1 u2 => zu_ne (by omega))) (LKc_r (fun a u1 u2 => zu_ne (by omega)))))
        have kJ5 : LKm k s N.1 J5 := LKm_t km (LKm_t (LKm_u (by omega)) k5 (Nat.le_refl _)) (Nat.le_refl _)
        exact LLN_x (hs.2.2.2.2 l (by omega)) (by omega) ⟨if_neg el, if_neg el, if_neg el, if_neg el⟩ (kI l (by omega)) (kJ5.1 l (by omega)) kJ5.2
  · rw [expC_f g (j := 0) (M := ((zu (zu I3 60 k (nI s3)) 56 8 (nI (k + 1))), M.2)) (by omega) tk (t := 59) (by dsimp only; rw [t3]; exact e), zbI_s] at cl
    rw [t3, cEq_n e, Bool.not_false, bif_t, errsM_s g (N := ((zu J3 85 (32 + k) (nI s3)), N.2)) (j := 0) (by omega) tk, zbI_s] at rf
    obtain ⟨f1, f2, f3⟩ := fl_al (I := zu (zu I3 60 k (nI s3)) 56 8 (nI (k + 1))) (J := zu J3 85 (32 + k) (nI s3)) 1 (nI (plS f L 0 c3))
    exact ⟨false, _, _, cl, rf, LFc_t fc4 (LFc_p f1), LFm_t fm4 (LFm_p f2), fun _ => f3, fun c => absurd c (by decide)⟩
