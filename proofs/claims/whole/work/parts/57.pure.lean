/-! PURE ROWS: leaks, the reference -/
/-- those of whom umbrellas tell, as a set -/
def toldN (u : Nat → Nat) (n : Nat) : Nat := seF (fun t => !decide (u t = 0)) n 0
theorem told_4 (g : zg) {n : Nat} {u : Nat → Nat} {N : zM} (hn : n ≤ 10) (hm : N.1 72 6 = nI n) (hu : ∀ t, t < 10 → N.1 94 t = nI (u t) ∧ u t < 4096) (f : Nat) : ∀ t acc, t + f = n → acc < 2 ^ t → zX (t_X12_toldOf g) 4 [some (.ref 72), some (.int (nI acc)), some (.int (nI t))] [] N = some (some (.int (nI (acc + seF (fun t => !decide (u t = 0)) f t))), N) := by
  induction f with
  | zero =>
    intro t acc ht _
    rw [e_X12_toldOf_4, hm, cLtF (by omega) (by omega), bif_f]
    rfl
  | succ f ih =>
    intro t acc ht ha
    obtain ⟨e1, e2⟩ := hu t (by omega)
    have hp : 2 ^ (t + 1) = 2 ^ t * 2 := Nat.pow_succ ..
    rw [e_X12_toldOf_4, hm, cLtT (by omega) (by omega), bif_t, zbT (by omega) (by omega), bif_t, zx_nI (by omega), e1, cEq0_nI (by omega), nI_s1, one_sh (by omega), nI_or, orF ha]
    show _ = some (some (Value.int (nI (acc + ((if (!decide (u t = 0)) = true then 2 ^ t else 0) + seF (fun t => !decide (u t = 0)) f (t + 1))))), N)
    cases decide (u t = 0)
    · rw [bif_f, ih (t + 1) (acc + 2 ^ t) (by omega) (by omega), Bool.not_false, if_pos rfl, Nat.add_assoc]
    · rw [bif_t, ih (t + 1) acc (by omega) (by omega), Bool.not_true, if_neg (by decide), Nat.zero_add]
theorem told_s (g : zg) {n : Nat} {u : Nat → Nat} {N : zM} (hn : n ≤ 10) (hm : N.1 72 6 = nI n) (hu : ∀ t, t < 10 → N.1 94 t = nI (u t) ∧ u t < 4096) : X_X12_toldOf g [.ref 72] N = some (some (.int (nI (toldN u n))), N) := by
  have e := told_4 g hn hm hu n 0 0 (by omega) (by omega)
  rw [Nat.zero_add] at e
  exact (x_X12_toldOf_0 g N).trans e
theorem crts_4 (g : zg) {n s : Nat} {u : Nat → Nat} {N : zM} (hn : n ≤ 10) (hm : N.1 72 6 = nI n) (hu : ∀ t, t < 10 → N.1 94 t = nI (u t) ∧ u t < 4096) (hs : s < 1024) (f : Nat) : ∀ t acc, t + f = n → zX (t_X12_courtsOf g) 4 [some (.ref 72), some (.int (nI s)), some (.int (nI acc)), some (.int (nI t))] [] N = some (some (.int (nI (acc ||| orS u s f t))), N) := by
  induction f with
  | zero =>
    intro t acc ht
    rw [e_X12_courtsOf_4, hm, cLtF (by omega) (by omega), bif_f]
    show _ = some (some (Value.int (nI (acc ||| 0))), N)
    rw [Nat.or_zero]
  | succ f ih =>
    intro t acc ht
    obtain ⟨e1, e2⟩ := hu t (by omega)
    rw [e_X12_courtsOf_4, hm, cLtT (by omega) (by omega), bif_t, has_s g (by omega) (by omega), zbI_s, cEq0_b01, zbT (by omega) (by omega), bif_t, zx_nI (by omega), e1, nI_or, nI_s1]
    show _ = some (some (Value.int (nI (acc ||| ((if bt10 s t = true then u t else 0) ||| orS u s f (t + 1))))), N)
    cases bt10 s t
    · rw [Bool.not_false, bif_t, ih (t + 1) acc (by omega), if_neg (by decide), Nat.zero_or]
    · rw [Bool.not_true, bif_f, ih (t + 1) (acc ||| u t) (by omega), if_pos rfl, Nat.or_assoc]
theorem crts_s (g : zg) {n s : Nat} {u : Nat → Nat} {N : zM} (hn : n ≤ 10) (hm : N.1 72 6 = nI n) (hu : ∀ t, t < 10 → N.1 94 t = nI (u t) ∧ u t < 4096) (hs : s < 1024) : X_X12_courtsOf g [.ref 72, .int (nI s)] N = some (some (.int (nI (orS u s n 0))), N) := by
  have e := crts_4 g hn hm hu hs n 0 0 (by omega)
  rw [Nat.zero_or] at e
  exact (x_X12_courtsOf_0 g (nI s) N).trans e
theorem leakM_50 (g : zg) {n tk : Nat} {a2 : Int32} {u : Nat → Nat} {N : zM} (hn : n ≤ 10) (hm : N.1 72 6 = nI n) (hu : ∀ t, t < 10 → N.1 94 t = nI (u t) ∧ u t < 4096) (hul : ∀ t, u t < 4096) (htk : tk < 4096) (f : Nat) : ∀ (s : Nat) (b : Option Nat), s + f = 2 ^ n → (∀ x, b = some x → x < 1024) → zX (t_X12_leaks g) 50 [some (.ref 72), some (.int (nI tk)), some (.int a2), some (.int (nI (toldN u n))), some (.int (bI b)), some (.int (nI s))] [] N = zX (t_X12_leaks g) 50 [some (.ref 72), some (.int (nI tk)), some (.int a2), some (.int (nI (toldN u n))), some (.int (bI (wiF (fun s => decide (dif s (toldN u n) = 0) && decide (orS u s n 0 = tk)) f s b))), some (.int (nI (2 ^ n)))] [] N := by
  have h2n : 2 ^ n ≤ 1024 := Nat.pow_le_pow_right (n := 2) (by omega) hn
  induction f with
  | zero => intro s b hs _; rw [show s = 2 ^ n by omega]; rfl
  | succ f ih =>
    intro s b hs hb
    have hd := dif_lt (a := s) (b := toldN u n) (by omega)
    have hor : orS u s n 0 < 4096 := orS_lt hul n 0
    rw [e_X12_leaks_50, hm, one_sh (by omega), cLtT (by omega) (by omega), bif_t, dif_s, cEq0_nI (by omega), crts_s g hn hm hu (by omega), zbI_s, cEq_nI (by omega) (by omega), nI_s1, wiF_s]
    cases hP : decide (dif s (toldN u n) = 0)
    · rw [bif_f, if_neg (by simp), ih (s + 1) b (by omega) hb]
    · rw [bif_t, Bool.true_and]
      cases hQ : decide (orS u s n 0 = tk)
      · rw [bif_f, if_neg (by simp)]
        exact ih (s + 1) b (by omega) hb
      · rw [bif_t]
        cases b with
        | none =>
          rw [show cEq (bI none) (-1) = true from by decide, bif_t, if_pos ⟨rfl, fun u e => by cases e⟩]
          exact ih (s + 1) (some s) (by omega) (fun u e => by cases e; omega)
        | some x =>
          have hx := hb x rfl
          have hpc : ∀ x, pcN x ≤ 10 := by intro x; unfold pcN; omega
          have p1 := hpc s
          have p2 := hpc x
          have eb : bI (some x) = nI x := rfl
          rw [cEq_n (bI_ne (by omega)), bif_f, ones_s g (by omega), zbI_s, eb, ones_s g hx, zbI_s]
          by_cases hq : pcN s < pcN x
          · rw [if_pos ⟨rfl, fun v e => by cases e; exact hq⟩, cLtT hq (by omega), bif_t]
            exact ih (s + 1) (some s) (by omega) (fun u e => by cases e; omega)
          · rw [if_neg (fun h => hq (h.2 x rfl)), cLtF (by omega) (by omega), bif_f]
            exact ih (s + 1) (some x) (by omega) hb
theorem unA_0 {wo wm : Nat → Nat} {n t : Nat} (ht : n ≤ t) : ∀ m, (∀ k, k < m → wo k < n) → unA wo wm t m = 0 := by
  intro m
  induction m with
  | zero => intro _; rfl
  | succ m ih =>
    intro h
    show unA wo wm t m ||| (if wo m = t then 2 ^ wm m else 0) = 0
    rw [ih (fun k hk => h k (by omega)), if_neg (by have := h m (by omega); omega)]
    rfl
theorem leak_same {n tk : Nat} {u : Nat → Nat} (hn : n ≤ 10) (hu0 : ∀ t, n ≤ t → u t = 0) : wiF (fun s => decide (dif s (toldN u n) = 0) && decide (orS u s n 0 = tk)) (2 ^ n) 0 none = wiF (fun s => decide (orN u s = tk)) 1024 0 none := by
  have hb := seF_set (p := fun t => !decide (u t = 0)) hn
  have h2n : 2 ^ n ≤ 1024 := Nat.pow_le_pow_right (n := 2) (by omega) hn
  have hnn : ∀ s, orN u s = orS u s n 0 := by
    intro s
    unfold orN
    rw [show 10 = n + (10 - n) by omega]
    exact orS_more n (10 - n) 0 (fun k h1 h2 => by rw [hu0 k (by omega)]; split <;> rfl)
  have h1 := wiF_ok (P := fun s => decide (orN u s = tk)) 1024 0 none ⟨fun u e => (by cases e), fun _ x hx => absurd hx (by omega)⟩
  have h3 := wiF_ok (P := fun s => decide (dif s (toldN u n) = 0) && decide (orS u s n 0 = tk)) (2 ^ n) 0 none ⟨fun u e => (by cases e), fun _ x hx => absurd hx (by omega)⟩
  rw [Nat.zero_add] at h1 h3
  refine wiOk_uniq h3 (wi_same h1 h2n ?_ ?_)
  · intro x hx hq
    simp only [Bool.and_eq_true, decide_eq_true_eq] at hq ⊢
    rw [hnn]
    exact hq.2
  · intro x hx hp
    simp only [decide_eq_true_eq] at hp
    have hsub : ∀ t, bt10 (x &&& toldN u n) t = true → bt10 (toldN u n) t = true := by
      intro t ht
      rw [and_bt] at ht
      exact (Bool.and_eq_true _ _ ▸ ht).2
    have hsub2 : ∀ t, bt10 (x &&& toldN u n) t = true → bt10 x t = true := by
      intro t ht
      rw [and_bt] at ht
      exact (Bool.and_eq_true _ _ ▸ ht).1
    have hlt : x &&& toldN u n < 2 ^ n := Nat.lt_of_le_of_lt Nat.and_le_right hb.1
    refine ⟨x &&& toldN u n, hlt, ?_, pc_sub (by omega) (by omega) hsub2⟩
    simp only [Bool.and_eq_true, decide_eq_true_eq]
    refine ⟨dif_0.mpr hsub, ?_⟩
    rw [← hp, hnn]
    apply orS_cg
    intro k _ hk
    rw [and_bt]
    unfold toldN
    rw [hb.2.2 k, decide_eq_true (show k < n by omega), Bool.true_and]
    by_cases e : u k = 0
    · rw [e]
      split <;> split <;> rfl
    · rw [decide_eq_false e, Bool.not_false, Bool.and_true]
/-- the answer of leaks for the sets -/
def lksA (u : Nat → Nat) (tk : Nat) (a2 : Int32) : Int32 := match wiF (fun s => decide (orN u s = tk)) 1024 0 none with
  | none => -1
  | some x => bif cEq a2 1 then nI x else nI (pcN x)
theorem leaksM_set (g : zg) {n tk : Nat} {a2 : Int32} {u : Nat → Nat} {N : zM} (hn : n ≤ 10) (hm : N.1 72 6 = nI n) (hu : ∀ t, t < 10 → N.1 94 t = nI (u t) ∧ u t < 4096) (hul : ∀ t, u t < 4096) (hu0 : ∀ t, n ≤ t → u t = 0) (htk : tk < 4096) : zX (t_X12_leaks g) 50 [some (.ref 72), some (.int (nI tk)), some (.int a2), some (.int (nI (toldN u n))), some (.int (-1)), some (.int 0)] [] N = some (some (.int (lksA u tk a2)), N) := by
  have h2n : 2 ^ n ≤ 1024 := Nat.pow_le_pow_right (n := 2) (by omega) hn
  have e := leakM_50 g (a2 := a2) hn hm hu hul htk (2 ^ n) 0 none (by omega) (fun x e => by cases e)
  rw [leak_same hn hu0] at e
  unfold lksA
  rw [show zX (t_X12_leaks g) 50 [some (.ref 72), some (.int (nI tk)), some (.int a2), some (.int (nI (toldN u n))), some (.int (-1)), some (.int 0)] [] N = _ from e, e_X12_leaks_50, hm, one_sh (by omega), cLtF (Nat.le_refl _) (by omega), bif_f]
  have hlt := wiF_b (P := fun s => decide (orN u s = tk)) 1024 0 none (fun u e => by cases e)
  generalize wiF (fun s => decide (orN u s = tk)) 1024 0 none = b at hlt
  cases b with
  | none => rfl
  | some x =>
    have hx := hlt x rfl
    have eb : bI (some x) = nI x := rfl
    rw [cEq_n (bI_ne (by omega)), bif_f, eb, ones_s g (by omega), zbI_s, bif_push]
theorem leaksC_end (g : zg) {tk : Nat} {a2 : Int32} {u : Nat → Nat} {M : zM} : (bif cEq (bI (wiF (fun s => decide (orN u s = tk)) 1024 0 none)) (-1) then some (some (.int (bI (wiF (fun s => decide (orN u s = tk)) 1024 0 none))), M) else (bif cEq a2 1 then some (some (.int (bI (wiF (fun s => decide (orN u s = tk)) 1024 0 none))), M) else (zbI (X_J6_bitCount_0f7a4 g [.int (bI (wiF (fun s => decide (orN u s = tk)) 1024 0 none))] M) (fun x2 M2 => (some (some (Value.int x2), M2) : Option (Option Value × zM)))))) = some (some (.int (lksA u tk a2)), M) := by
  unfold lksA
  have hlt := wiF_b (P := fun s => decide (orN u s = tk)) 1024 0 none (fun u e => by cases e)
  generalize wiF (fun s => decide (orN u s = tk)) 1024 0 none = b at hlt
  cases b with
  | none => rfl
  | some x =>
    have hx := hlt x rfl
    have eb : bI (some x) = nI x := rfl
    rw [cEq_n (bI_ne (by omega)), bif_f, eb, bitCount_s g (by omega), zbI_s, bif_push]
/-- tellers of whom a courtier tells (all of them: NONE), as a set, out of m umbrellas -/
def tlA (wo wm : Nat → Nat) (c : Option Nat) : Nat → Nat
  | 0 => 0
  | k + 1 => tlA wo wm c k ||| (if (∀ b, c = some b → wm k = b) then 2 ^ wo k else 0)
theorem tlA_lt {wo wm : Nat → Nat} {c : Option Nat} : ∀ m, (∀ k, k < m → wo k < 10) → tlA wo wm c m < 1024 := by
  intro m
  induction m with
  | zero => intro _; show 0 < 1024; omega
  | succ m ih =>
    intro h
    have h1 := ih (fun k hk => h k (by omega))
    have h2 : (if (∀ b, c = some b → wm m = b) then 2 ^ wo m else 0) < 1024 := by
      split
      · exact (p2_lt (h m (by omega))).1
      · omega
    exact or_lt h1 h2
theorem tl_4 (g : zg) {m n : Nat} {wo wm : Nat → Nat} {J : zI} {M : zM} (h : UM m n wo wm M.1 J) (hn : n ≤ 10) (c : Option Nat) (hc : ∀ b, c = some b → b < 12) (f : Nat) : ∀ k, k + f = m → zX (t_X6_tellersOf g) 4 [some (.ref 32), some (.int (bI c)), some (.int (nI (tlA wo wm c k))), some (.int (nI k))] [] M = some (some (.int (nI (pcN (tlA wo wm c m)))), M) := by
  obtain ⟨b1, b2, b3, b4, b5⟩ := h
  induction f with
  | zero =>
    intro k hk
    have hk' : k = m := by omega
    subst hk'
    rw [e_X6_tellersOf_4, b2, cLtF (by omega) (by omega), bif_f, bitCount_s g (tlA_lt k (fun j hj => by have := (b4 j hj).2.2.1; omega)), zbI_s]
  | succ f ih =>
    intro k hk
    obtain ⟨c1, c2, c3, c4⟩ := b4 k (by omega)
    have ih' := ih (k + 1) (by omega)
    rw [e_X6_tellersOf_4, b2, cLtT (by omega) (by omega), bif_t, zbT (by omega) (by omega), bif_t, bif_t, zx_nI (by omega), c1, c2, one_sh (by omega), nI_or, nI_s1]
    have es : tlA wo wm c (k + 1) = tlA wo wm c k ||| (if (∀ b, c = some b → wm k = b) then 2 ^ wo k else 0) := rfl
    cases c with
    | none =>
      rw [if_pos (fun b e => by cases e)] at es
      rw [es] at ih'
      rw [show cEq (bI none) (-1) = true from by decide, bif_t]
      exact ih'
    | some b =>
      have hb := hc b rfl
      have eb : bI (some b) = nI b := rfl
      rw [cEq_n (bI_ne (by omega)), bif_f, eb, cEq_nI (by omega) (by omega)]
      by_cases e : wm k = b
      · rw [if_pos (fun b' e' => by cases e'; exact e)] at es
        rw [es] at ih'
        rw [decide_eq_true e, bif_t]
        exact ih'
      · rw [if_neg (fun h => e (h b rfl)), Nat.or_zero] at es
        rw [es] at ih'
        rw [decide_eq_false e, bif_f]
        exact ih'
theorem tellers_s (g : zg) {m n : Nat} {wo wm : Nat → Nat} {J : zI} {M : zM} (h : UM m n wo wm M.1 J) (hn : n ≤ 10) (c : Option Nat) (hc : ∀ b, c = some b → b < 12) : X_X6_tellersOf g [.ref 32, .int (bI c)] M = some (some (.int (nI (pcN (tlA wo wm c m)))), M) := (x_X6_tellersOf_0 g (bI c) M).trans (tl_4 g h hn c hc m 0 (by omega))
theorem un_bt {wo wm : Nat → Nat} {t : Nat} (b : Nat) : ∀ m, bt10 (unA wo wm t m) b = true ↔ ∃ k, k < m ∧ wo k = t ∧ wm k = b := by
  intro m
  induction m with
  | zero =>
    constructor
    · intro h
      rw [show unA wo wm t 0 = 0 from rfl, bt_big (a := 0) (k := 0) (by omega) (by omega)] at h
      cases h
    · rintro ⟨k, hk, _⟩; omega
  | succ m ih =>
    have es : unA wo wm t (m + 1) = unA wo wm t m ||| (if wo m = t then 2 ^ wm m else 0) := rfl
    rw [es, or_bt, Bool.or_eq_true, ih]
    have pb : bt10 (if wo m = t then 2 ^ wm m else 0) b = true ↔ wo m = t ∧ wm m = b := by
      split
      · rename_i h
        rw [bt_tb, Nat.testBit_two_pow]
        constructor
        · intro e; exact ⟨h, of_decide_eq_true e⟩
        · intro e; exact decide_eq_true e.2
      · rename_i h
        constructor
        · intro e
          rw [bt_big (a := 0) (k := 0) (by omega) (by omega)] at e
          cases e
        · intro e; exact absurd e.1 h
    rw [pb]
    constructor
    · rintro (⟨k, hk, h1, h2⟩ | ⟨h1, h2⟩)
      · exact ⟨k, by omega, h1, h2⟩
      · exact ⟨m, by omega, h1, h2⟩
    · rintro ⟨k, hk, h1, h2⟩
      by_cases e : k = m
      · subst e; exact Or.inr ⟨h1, h2⟩
      · exact Or.inl ⟨k, by omega, h1, h2⟩
theorem tl_bt {wo wm : Nat → Nat} {c : Option Nat} (t : Nat) : ∀ m, bt10 (tlA wo wm c m) t = true ↔ ∃ k, k < m ∧ wo k = t ∧ ∀ b, c = some b → wm k = b := by
  intro m
  induction m with
  | zero =>
    constructor
    · intro h
      rw [show tlA wo wm c 0 = 0 from rfl, bt_big (a := 0) (k := 0) (by omega) (by omega)] at h
      cases h
    · rintro ⟨k, hk, _⟩; omega
  | succ m ih =>
    have es : tlA wo wm c (m + 1) = tlA wo wm c m ||| (if (∀ b, c = some b → wm m = b) then 2 ^ wo m else 0) := rfl
    rw [es, or_bt, Bool.or_eq_true, ih]
    have pb : bt10 (if (∀ b, c = some b → wm m = b) then 2 ^ wo m else 0) t = true ↔ wo m = t ∧ ∀ b, c = some b → wm m = b := by
      split
      · rename_i h
        rw [bt_tb, Nat.testBit_two_pow]
        constructor
        · intro e; exact ⟨of_decide_eq_true e, h⟩
        · intro e; exact decide_eq_true e.1
      · rename_i h
        constructor
        · intro e
          rw [bt_big (a := 0) (k := 0) (by omega) (by omega)] at e
          cases e
        · intro e; exact absurd e.2 h
    rw [pb]
    constructor
    · rintro (⟨k, hk, h1, h2⟩ | ⟨h1, h2⟩)
      · exact ⟨k, by omega, h1, h2⟩
      · exact ⟨m, by omega, h1, h2⟩
    · rintro ⟨k, hk, h1, h2⟩
      by_cases e : k = m
      · subst e; exact Or.inr ⟨h1, h2⟩
      · exact Or.inl ⟨k, by omega, h1, h2⟩
theorem un_ne0 {wo wm : Nat → Nat} {t m : Nat} : ¬ unA wo wm t m = 0 ↔ ∃ k, k < m ∧ wo k = t := by
  constructor
  · intro h
    apply Classical.byContradiction
    intro h2
    apply h
    apply bt_ext
    intro b
    rw [bt_big (a := 0) (k := 0) (by omega) (by omega)]
    cases hb : bt10 (unA wo wm t m) b with
    | false => rfl
    | true =>
      obtain ⟨k, hk, h3, _⟩ := (un_bt b m).mp hb
      exact absurd ⟨k, hk, h3⟩ h2
  · rintro ⟨k, hk, h⟩ h0
    have := (un_bt (wo := wo) (wm := wm) (t := t) (wm k) m).mpr ⟨k, hk, h, rfl⟩
    rw [h0, bt_big (a := 0) (k := 0) (by omega) (by omega)] at this
    cases this
