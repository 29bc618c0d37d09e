/-! PURE ROWS: what is to be done, on both sides -/
def kdR (K V : Int32) : Int32 := bif (cEq K 2 && cEq V 20) then 0 else bif (cEq K 2 && cEq V 9) then 1 else bif cEq K 2 then (bif inb V 21 24 then 2 + V - 21 else -1) else -1
theorem isW_b (g : zg) (a : Int32) (N : zM) : X_X12_isWord g [.ref 72, .int a] N = some (some (.int (b01 (cEq (N.1 72 16) 2 && cEq (N.1 72 17) a))), N) := by
  rw [x_X12_isWord_0]
  cases cEq (N.1 72 16) 2 <;> cases cEq (N.1 72 17) a <;> rfl
theorem kindM_s (g : zg) (N : zM) : X_X12_kindOfDeed g [.ref 72] N = some (some (.int (kdR (N.1 72 16) (N.1 72 17))), N) := by
  rw [x_X12_kindOfDeed_0, isW_b, zbI_s, cEq0_b01, isW_b, zbI_s, cEq0_b01, isIn_s, zbI_s, cEq0_b01]
  unfold kdR
  cases cEq (N.1 72 16) 2
  · rfl
  · cases cEq (N.1 72 17) 20
    · cases cEq (N.1 72 17) 9
      · cases inb (N.1 72 17) 21 24 <;> rfl
      · rfl
    · rfl
theorem kd_word : ∀ i : Fin 7, kdR 2 (nI (wmp 2 i)) = (if i.val ≤ 5 then nI i else -1) ∧ inb (128 + nI i - 128) 0 5 = decide (i.val ≤ 5) ∧ (128 + nI i - 128 : Int32) = nI i := by decide +kernel
theorem kd_bad : ∀ m : Fin 25, (∀ i : Fin 7, ¬ wmp 2 i = m.val) → kdR 2 (nI m) = -1 := by decide +kernel
theorem kd_al {T W K V : Int32} (h : TKR 2 T W K V) : (kdR K V = -1 ∧ inb (T - 128) 0 5 = false) ∨ ∃ i, i ≤ 5 ∧ kdR K V = nI i ∧ T = 128 + nI i ∧ T - 128 = nI i ∧ inb (T - 128) 0 5 = true := by
  rcases h with ⟨h1, h2⟩ | ⟨h1, h2, _⟩ | ⟨h1, h2, h3⟩ | ⟨i, h1, h2, h3, h4⟩ | ⟨h1, h2⟩
  · left
    rw [h1, h2]
    exact ⟨rfl, by decide⟩
  · left
    rw [h1, h2]
    exact ⟨rfl, by decide⟩
  · left
    rw [h2]
    refine ⟨rfl, ?_⟩
    rcases sg_in h1 with h | h | h | h | h | h | h | h | h | h <;> rw [h] <;> decide
  · have hi : i < 7 := h1
    obtain ⟨d1, d2, d3⟩ := kd_word ⟨i, hi⟩
    dsimp only at d1 d2 d3
    rw [h2, h3, h4]
    by_cases h5 : i ≤ 5
    · right
      rw [if_pos h5] at d1
      rw [decide_eq_true h5] at d2
      exact ⟨i, h5, d1, rfl, d3, d2⟩
    · left
      rw [if_neg h5] at d1
      rw [decide_eq_false h5] at d2
      exact ⟨d1, d2⟩
  · left
    rw [h1]
    refine ⟨?_, by decide⟩
    rcases h2 with h2 | ⟨h2, m, m1, m2, m3⟩
    · rw [h2]
      rfl
    · rw [h2, m2]
      exact kd_bad ⟨m, m1⟩ (fun i => m3 i i.isLt)
/-- the agenda as it is read -/
def AS (n t : Nat) (dy wt wm mu : Nat → Nat) (I J : zI) : Prop := n ≤ 16 ∧ I 67 4 = nI n ∧ ∀ i, i < n → (I 68 i = nI (dy i) ∧ J 90 (64 + 4 * i) = nI (dy i) ∧ I 69 i = nI (wt i) ∧ J 90 (64 + 4 * i + 1) = nI (wt i) ∧ wt i ≤ 5) ∧ (wt i ≤ 4 → (I 70 i = nI (wm i) ∧ J 90 (64 + 4 * i + 2) = nI (wm i) ∧ wm i < t) ∧ (I 71 i = nI (mu i) ∧ J 90 (64 + 4 * i + 3) = nI (mu i) ∧ (wt i = 1 → inb (nI (mu i)) 0 99 = true) ∧ (wt i = 2 → inb (nI (mu i)) 0 4 = true)))
def AFc (I I' : zI) : Prop := (∀ a, a ≠ 1 → (a < 67 ∨ 71 < a) → I' a = I a) ∧ ∀ k, k ≠ 4 → k ≠ 6 → k ≠ 7 → I' 1 k = I 1 k
def AFm (J J' : zI) : Prop := (∀ a, a ≠ 72 → a ≠ 90 → J' a = J a) ∧ (∀ k, k < 64 → J' 90 k = J 90 k) ∧ ∀ k, k ≠ 14 → k ≠ 15 → k ≠ 16 → k ≠ 17 → k ≠ 31 → k ≠ 32 → J' 72 k = J 72 k
theorem AFc_p {I I' : zI} (h : PFc I I') : AFc I I' := ⟨fun a u1 _ => h.1 a u1, h.2⟩
theorem AFm_p {J J' : zI} (h : PFm J J') : AFm J J' := ⟨fun a u1 _ => h.1 a u1, fun k _ => by rw [h.1 90 (by omega)], h.2⟩
theorem AFc_t {I I' I'' : zI} (h : AFc I I') (h' : AFc I' I'') : AFc I I'' := ⟨fun a u1 u2 => (h'.1 a u1 u2).trans (h.1 a u1 u2), fun k u1 u2 u3 => (h'.2 k u1 u2 u3).trans (h.2 k u1 u2 u3)⟩
theorem AFm_t {J J' J'' : zI} (h : AFm J J') (h' : AFm J' J'') : AFm J J'' := ⟨fun a u1 u2 => (h'.1 a u1 u2).trans (h.1 a u1 u2), fun k hk => (h'.2.1 k hk).trans (h.2.1 k hk), fun k u1 u2 u3 u4 u5 u6 => (h'.2.2 k u1 u2 u3 u4 u5 u6).trans (h.2.2 k u1 u2 u3 u4 u5 u6)⟩
theorem AFm_u {J : zI} {k : Nat} {v : Int32} (hk : 64 ≤ k) : AFm J (zu J 90 k v) := ⟨fun a _ u => zu_ne u, fun i hi => zu_ne2 (by omega), fun i _ _ _ _ _ _ => zu_ne1 (by omega)⟩
theorem AFc_u {I : zI} {a k : Nat} {v : Int32} (ha : 67 ≤ a ∧ a ≤ 71) : AFc I (zu I a k v) := ⟨fun b _ u => zu_ne (by omega), fun i _ _ _ => zu_ne1 (by omega)⟩
theorem TKS_J90 {j : Nat} {f : Nat → Int32} {L c m k : Nat} {v : Int32} {I J : zI} (h : TKS j f L c m I J) : TKS j f L c m I (zu J 90 k v) := TKS_of h rfl rfl rfl rfl (fun _ _ _ => zu_ne1 (by omega)) (zu_ne (by omega)) (zu_ne (by omega))
theorem FL_90 {I J : zI} {k : Nat} {v : Int32} (h : FL I J) : FL I (zu J 90 k v) := ⟨by rw [zu_ne1 (by omega)]; exact h.1, by rw [zu_ne1 (by omega)]; exact h.2⟩
theorem FL_Ix {I J : zI} {a k : Nat} {v : Int32} (h : FL I J) (ha : 1 < a) : FL (zu I a k v) J := ⟨by rw [zu_ne1 (by omega)]; exact h.1, by rw [zu_ne1 (by omega)]; exact h.2⟩
