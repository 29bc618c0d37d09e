/-! PURE ROWS: a line of the law, on both sides -/
theorem any_al (g : zg) {f : Nat → Int32} {L c m s : Nat} {M N : zM} (h : TKS 0 f L c m M.1 N.1) (hl : LG s M.1 N.1) (h28 : N.1 72 28 = nI 0) (hs : s ≤ c) : ∃ ok I' J', X_X4_readEither g [.ref 56, .ref 1, .int 0] M = some (some (.int (b01 ok)), (I', M.2)) ∧ X_X12_readAny g [.ref 72] N = some (some (.int (bif ok then 0 else -1)), (J', N.2)) ∧ GFc s M.1 I' ∧ EFm s N.1 J' ∧ (ok = false → FL I' J') ∧ (ok = true → ∃ c' s', TKS 0 f L c' m I' J' ∧ LG s' I' J' ∧ J' 72 28 = nI 0 ∧ s ≤ s' ∧ c < c' ∧ s' + c ≤ s + c' ∧ TY J' s s' [] [1]) := by
  have tk : TKS 0 f L c m M.1 (zu N.1 72 30 0) := TKS_E h (fun k _ _ => zu_ne2 (by omega)) (zu_ne (by omega)) (zu_ne (by omega))
  have lg : LG s M.1 (zu N.1 72 30 0) := LGq_x hl rfl (fun _ _ => rfl) (zu_ne2 (by omega)) (fun j _ => ⟨zu_ne1 (by omega), zu_ne1 (by omega)⟩)
  have ps : PS (flg false 10 ++ (flg false 11 ++ [])) 0 (zu N.1 72 30 0) := ⟨by decide, by rw [zu_eq]; rfl, by rw [zu_ne2 (by omega)]; exact h28, fun x hx => absurd hx (by simp [flg]), True.intro⟩
  have tf : false.toNat = 0 := rfl
  have l0 : ([] : List Nat).length = 0 := rfl
  obtain ⟨ok, I', x1, x2, x3, x4⟩ := eit_al g (tes_al g (f := f) (L := L) (m := m) 9) m 0 c s 0 0 false false [] M ((zu N.1 72 30 0), N.2) (Or.inl rfl) tk lg ps (by omega) (by omega) (by omega) (by omega) (by omega) (by omega) (by omega)
  dsimp only at x3 x4
  have ff : EFm s N.1 (zu N.1 72 30 0) := EFm_u (by omega)
  have cl : X_X4_readEither g [.ref 56, .ref 1, .int 0] M = some (some (.int (b01 ok)), (I', M.2)) := by
    show X_E g 9 [.ref 56, .ref 1, .int 0] M = _
    rw [x_X4_readEither_0]
    exact x1
  cases ok
  · obtain ⟨J', u1, u2, u3⟩ := x3 rfl
    refine ⟨false, I', J', cl, ?_, x2, EFm_t ff u2 (Nat.le_refl _), fun _ => u3, fun c => absurd c (by decide)⟩
    rw [x_X12_readAny_0]
    exact u1
  · obtain ⟨J', c', s', u1, u2, u3, u4, u5, u6, u7, u8, u9⟩ := x4 rfl
    refine ⟨true, I', J', cl, ?_, x2, EFm_t ff u2 (Nat.le_refl _), fun c => absurd c (by decide), fun _ => ⟨c', s', u3, u4, u5.2.2.1, u6, u7, by omega, u9 [] (by omega)⟩⟩
    rw [x_X12_readAny_0]
    exact u1
/-- a line that was read -/
def LLN (s : Nat) (wd fr wh en : Nat → Nat) (l : Nat) (I J : zI) : Prop := (wd l < 3 ∧ I 57 l = nI (137 + wd l) ∧ J 82 (32 + l) = nI (wd l)) ∧ (I 58 l = nI (fr l) ∧ J 83 (32 + l) = nI (fr l) ∧ I 59 l = nI (wh l) ∧ J 84 (32 + l) = nI (wh l) ∧ I 60 l = nI (en l) ∧ J 85 (32 + l) = nI (en l)) ∧ (fr l ≤ wh l ∧ wh l ≤ en l ∧ en l ≤ s) ∧ (∃ x, TY J (fr l) (wh l) [] [x]) ∧ (wh l < en l → TY J (wh l) (en l) [] [1])
theorem LLN_x {s s' l : Nat} {wd fr wh en wd' fr' wh' en' : Nat → Nat} {I J I' J' : zI} (h : LLN s wd fr wh en l I J) (hs : s ≤ s') (e : wd' l = wd l ∧ fr' l = fr l ∧ wh' l = wh l ∧ en' l = en l) (hI : I' 57 l = I 57 l ∧ I' 58 l = I 58 l ∧ I' 59 l = I 59 l ∧ I' 60 l = I 60 l) (hJ : J' 82 (32 + l) = J 82 (32 + l) ∧ J' 83 (32 + l) = J 83 (32 + l) ∧ J' 84 (32 + l) = J 84 (32 + l) ∧ J' 85 (32 + l) = J 85 (32 + l)) (hc : ∀ j, j < s → J' 86 (800 + j) = J 86 (800 + j) ∧ J' 87 (800 + j) = J 87 (800 + j)) : LLN s' wd' fr' wh' en' l I' J' := by
  obtain ⟨a, b, ⟨c1, c2, c3⟩, ⟨x, d⟩, e5⟩ := h
  obtain ⟨e1, e2, e3, e4⟩ := e
  obtain ⟨i1, i2, i3, i4⟩ := hI
  obtain ⟨j1, j2, j3, j4⟩ := hJ
  unfold LLN
  rw [e1, e2, e3, e4, i1, i2, i3, i4, j1, j2, j3, j4]
  exact ⟨a, b, ⟨c1, c2, by omega⟩, ⟨x, TY_x d (fun j hj => hc j (by omega))⟩, fun hw => TY_x (e5 hw) (fun j hj => hc j (by omega))⟩
def LLS (k s : Nat) (wd fr wh en : Nat → Nat) (I J : zI) : Prop := k ≤ 16 ∧ I 56 8 = nI k ∧ LG s I J ∧ J 72 28 = nI 0 ∧ ∀ l, l < k → LLN s wd fr wh en l I J
def LFc (I I' : zI) : Prop := (∀ a, a ≠ 1 → (a < 56 ∨ 61 < a) → I' a = I a) ∧ ∀ k, k ≠ 4 → k ≠ 6 → k ≠ 7 → I' 1 k = I 1 k
def LFm (J J' : zI) : Prop := (∀ a, a ≠ 72 → (a < 82 ∨ 88 < a) → J' a = J a) ∧ (∀ k, k ≠ 14 → k ≠ 15 → k ≠ 16 → k ≠ 17 → k ≠ 27 → k ≠ 28 → k ≠ 30 → k ≠ 31 → k ≠ 32 → J' 72 k = J 72 k) ∧ (∀ a j, 82 ≤ a → a ≤ 85 → j < 32 → J' a j = J a j) ∧ ∀ a j, a = 86 ∨ a = 87 → j < 800 → J' a j = J a j
theorem LFc_t {I I' I'' : zI} (h : LFc I I') (h' : LFc I' I'') : LFc I I'' := ⟨fun a u1 u2 => (h'.1 a u1 u2).trans (h.1 a u1 u2), fun k u1 u2 u3 => (h'.2 k u1 u2 u3).trans (h.2 k u1 u2 u3)⟩
theorem LFm_t {J J' J'' : zI} (h : LFm J J') (h' : LFm J' J'') : LFm J J'' := ⟨fun a u1 u2 => (h'.1 a u1 u2).trans (h.1 a u1 u2), fun k u1 u2 u3 u4 u5 u6 u7 u8 u9 => (h'.2.1 k u1 u2 u3 u4 u5 u6 u7 u8 u9).trans (h.2.1 k u1 u2 u3 u4 u5 u6 u7 u8 u9), fun a j u1 u2 u3 => (h'.2.2.1 a j u1 u2 u3).trans (h.2.2.1 a j u1 u2 u3), fun a j u1 u2 => (h'.2.2.2 a j u1 u2).trans (h.2.2.2 a j u1 u2)⟩
theorem LFc_g {s : Nat} {I I' : zI} (h : GFc s I I') : LFc I I' := ⟨fun a u1 u2 => h.1 a u1 (by omega) (by omega), h.2.1⟩
theorem LFm_e {s : Nat} {J J' : zI} (h : EFm s J J') : LFm J J' := by
  refine ⟨fun a u1 u2 => h.1 a u1 (by omega) (by omega) (by omega), h.2.1, fun a j u1 u2 u3 => by rw [h.1 a (by omega) (by omega) (by omega) (by omega)], fun a j u1 u2 => ?_⟩
  obtain ⟨y1, y2⟩ := h.2.2 j (by omega)
  rcases u1 with e | e
  · rw [e]
    exact y1
  · rw [e]
    exact y2
theorem LFc_p {I I' : zI} (h : PFc I I') : LFc I I' := LFc_g (s := 0) (GFc_p h)
theorem LFm_p {J J' : zI} (h : PFm J J') : LFm J J' := LFm_e (s := 0) (EFm_g (GFm_p h))
theorem LFc_u {I : zI} {a k : Nat} {v : Int32} (ha : 56 ≤ a ∧ a ≤ 61) : LFc I (zu I a k v) := ⟨fun b _ u => zu_ne (by omega), fun i _ _ _ => zu_ne1 (by omega)⟩
theorem LFm_u {J : zI} {a k : Nat} {v : Int32} (ha : 82 ≤ a ∧ a ≤ 85) (hk : 32 ≤ k) : LFm J (zu J a k v) := by
  refine ⟨fun b _ u => zu_ne (by omega), fun i _ _ _ _ _ _ _ _ _ => zu_ne1 (by omega), fun b j _ _ _ => ?_, fun b j _ _ => zu_ne1 (by omega)⟩
  by_cases e : b = a
  · subst e
    exact zu_ne2 (by omega)
  · exact zu_ne1 e
/-- a word with which a line begins -/
theorem lk_w : ∀ i : Fin 16, inb (nI (wmp 0 i)) 0 2 = decide (9 ≤ i.val ∧ i.val < 12) ∧ (cEq (128 + nI i) 137 || cEq (128 + nI i) 138 || cEq (128 + nI i) 139) = decide (9 ≤ i.val ∧ i.val < 12) ∧ (9 ≤ i.val → i.val < 12 → 128 + nI i = nI (137 + (i - 9)) ∧ wmp 0 i = i - 9) := by decide +kernel
theorem lk_m : ∀ m : Fin 25, (∀ i : Fin 16, ¬ wmp 0 i = m.val) → inb (nI m) 0 2 = false := by decide +kernel
theorem lk0 {T W K V : Int32} (h : TKR 0 T W K V) : (∃ w, w < 3 ∧ T = nI (137 + w) ∧ K = 2 ∧ V = nI w) ∨ ((¬ T = 137 ∧ ¬ T = 138 ∧ ¬ T = 139) ∧ (cEq K 2 = true → inb V 0 2 = false)) := by
  rcases h with ⟨h1, h2⟩ | ⟨h1, h2, h3⟩ | ⟨h1, h2, h3⟩ | ⟨i, h1, h2, h3, h4⟩ | ⟨h1, h2⟩
  · right
    rw [h1, h2]
    exact ⟨by decide, fun c => absurd c (by decide)⟩
  · right
    rw [h1, h2]
    exact ⟨by decide, fun c => absurd c (by decide)⟩
  · right
    rw [h2]
    refine ⟨?_, fun c => absurd c (by decide)⟩
    rcases sg_in h1 with h | h | h | h | h | h | h | h | h | h <;> rw [h] <;> decide
  · have hi : i < 16 := h1
    obtain ⟨w1, w2, w3⟩ := lk_w ⟨i, hi⟩
    dsimp only at w1 w2 w3
    by_cases e : 9 ≤ i ∧ i < 12
    · left
      obtain ⟨x1, x2⟩ := w3 e.1 e.2
      exact ⟨i - 9, by omega, by rw [h2]; exact x1, h3, by rw [h4, x2]⟩
    · right
      rw [decide_eq_false e] at w1 w2
      simp only [Bool.or_eq_false_iff] at w2
      rw [h2, h3, h4]
      refine ⟨⟨fun c => ?_, fun c => ?_, fun c => ?_⟩, fun _ => w1⟩
      · have q := w2.1.1
        rw [cEq_s c] at q
        exact absurd q (by decide)
      · have q := w2.1.2
        rw [cEq_s c] at q
        exact absurd q (by decide)
      · have q := w2.2
        rw [cEq_s c] at q
        exact absurd q (by decide)
  · right
    rw [h1]
    refine ⟨by decide, fun c => ?_⟩
    rcases h2 with h2 | ⟨h2, m, m1, m2, m3⟩
    · rw [h2] at c
      exact absurd c (by decide)
    · rw [m2]
      exact lk_m ⟨m, m1⟩ (fun i => m3 i i.isLt)
