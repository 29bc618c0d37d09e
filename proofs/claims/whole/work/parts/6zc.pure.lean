/-! PURE ROWS: the law's codes as they are read, on both sides -/
def oJ (J : zI) (j : Nat) : Nat := zx (J 86 (800 + j))
def kJ (J : zI) (j : Nat) : Nat := zx (J 87 (800 + j))
/-- s codes on the class's side, q more on the reference's -/
def LGq (w q s : Nat) (I J : zI) : Prop := s + q ≤ 400 ∧ I 56 7 = nI s ∧ J 72 27 = nI (s + q) ∧ (∀ j, j < s → I 61 j = cdOf (oJ J j) (kJ J j) ∧ J 86 (800 + j) = nI (oJ J j) ∧ J 87 (800 + j) = nI (kJ J j)) ∧ ∀ j, s ≤ j → j < s + q → J 86 (800 + j) = nI w ∧ J 87 (800 + j) = nI 0
def LG (s : Nat) (I J : zI) : Prop := LGq 0 0 s I J
theorem LG_w {w s : Nat} {I J : zI} : LGq w 0 s I J ↔ LG s I J := by
  constructor
  · rintro ⟨a, b, c, d, _⟩
    exact ⟨a, b, c, d, fun j u1 u2 => absurd u2 (by omega)⟩
  · rintro ⟨a, b, c, d, _⟩
    exact ⟨a, b, c, d, fun j u1 u2 => absurd u2 (by omega)⟩
def eC (I : zI) (s : Nat) (a : Int32) : zI := zu (zu I 61 s a) 56 7 (nI (s + 1))
def eM (J : zI) (s : Nat) (w v : Int32) : zI := zu (zu (zu J 86 (800 + s) w) 87 (800 + s) v) 72 27 (nI (s + 1))
theorem emitC_s (g : zg) {s : Nat} {M : zM} (h : M.1 56 7 = nI s) (hs : s < 400) (a : Int32) : X_X4_emit g [.ref 56, .int a] M = some (none, (eC M.1 s a, M.2)) := by
  rw [x_X4_emit_0, h, clT (c := 400) (n := 400) rfl hs (by omega), bif_t, zb_nI (by omega), decide_eq_true hs, bif_t, zx_nI (by omega), nI_s1]
  rfl
theorem emitsM_s (g : zg) {s : Nat} {N : zM} (h : N.1 72 27 = nI s) (hs : s < 400) (w v : Int32) : X_X12_emits g [.ref 72, .int w, .int v] N = some (none, (eM N.1 s w v, N.2)) := by
  rw [x_X12_emits_0, h, show (800 : Int32) = nI 800 from rfl, nI_ad2, zb_nI (n := 800 + s) (by omega), decide_eq_true (p := 800 + s < 1200) (by omega), bif_t, bif_t, zx_nI (by omega), nI_s1]
  rfl
theorem oJ_x {J J' : zI} {j : Nat} (h : J' 86 (800 + j) = J 86 (800 + j)) : oJ J' j = oJ J j := by unfold oJ; rw [h]
theorem kJ_x {J J' : zI} {j : Nat} (h : J' 87 (800 + j) = J 87 (800 + j)) : kJ J' j = kJ J j := by unfold kJ; rw [h]
theorem eM_86 {J : zI} {s j : Nat} {w v : Int32} (h : j ≠ 800 + s) : eM J s w v 86 j = J 86 j ∧ eM J s w v 87 j = J 87 j := by
  unfold eM
  constructor
  · rw [zu_ne1 (by omega), zu_ne1 (by omega), zu_ne2 h]
  · rw [zu_ne1 (by omega), zu_ne2 h, zu_ne1 (by omega)]
theorem eM_at {J : zI} {s : Nat} {w v : Int32} : eM J s w v 86 (800 + s) = w ∧ eM J s w v 87 (800 + s) = v ∧ eM J s w v 72 27 = nI (s + 1) := by
  unfold eM
  refine ⟨?_, ?_, zu_eq⟩
  · rw [zu_ne1 (by omega), zu_ne1 (by omega), zu_eq]
  · rw [zu_ne1 (by omega), zu_eq]
theorem eM_ne {J : zI} {s a : Nat} {w v : Int32} (h : a ≠ 72 ∧ a ≠ 86 ∧ a ≠ 87) : eM J s w v a = J a := by
  unfold eM
  rw [zu_ne (by omega), zu_ne (by omega), zu_ne (by omega)]
theorem eM_72 {J : zI} {s k : Nat} {w v : Int32} (h : k ≠ 27) : eM J s w v 72 k = J 72 k := by
  unfold eM
  rw [zu_ne2 h, zu_ne1 (by omega), zu_ne1 (by omega)]
theorem eC_ne {I : zI} {s a : Nat} {v : Int32} (h : a ≠ 56 ∧ a ≠ 61) : eC I s v a = I a := by
  unfold eC
  rw [zu_ne (by omega), zu_ne (by omega)]
theorem eC_61 {I : zI} {s j : Nat} {v : Int32} (h : j ≠ s) : eC I s v 61 j = I 61 j := by
  unfold eC
  rw [zu_ne1 (by omega), zu_ne2 h]
theorem eC_at {I : zI} {s : Nat} {v : Int32} : eC I s v 61 s = v ∧ eC I s v 56 7 = nI (s + 1) := by
  unfold eC
  exact ⟨by rw [zu_ne1 (by omega), zu_eq], zu_eq⟩
theorem eC_56 {I : zI} {s k : Nat} {v : Int32} (h : k ≠ 7) : eC I s v 56 k = I 56 k := by
  unfold eC
  rw [zu_ne2 h, zu_ne1 (by omega)]
/-- a code told on both sides -/
theorem LG_em {s o v : Nat} {I J : zI} (h : LG s I J) (hs : s < 400) (ho : o < 10000) (hv : v < 10000) : LG (s + 1) (eC I s (cdOf o v)) (eM J s (nI o) (nI v)) ∧ oJ (eM J s (nI o) (nI v)) s = o ∧ kJ (eM J s (nI o) (nI v)) s = v := by
  obtain ⟨a, b, c, d, _⟩ := h
  have e1 : oJ (eM J s (nI o) (nI v)) s = o := by
    unfold oJ
    rw [eM_at.1, zx_nI (by omega)]
  have e2 : kJ (eM J s (nI o) (nI v)) s = v := by
    unfold kJ
    rw [eM_at.2.1, zx_nI (by omega)]
  refine ⟨⟨by omega, eC_at.2, eM_at.2.2, fun j hj => ?_, fun j u1 u2 => absurd u2 (by omega)⟩, e1, e2⟩
  by_cases e : j = s
  · subst e
    rw [e1, e2]
    exact ⟨eC_at.1, eM_at.1, eM_at.2.1⟩
  · rw [eC_61 e, oJ_x (J := J) (eM_86 (by omega)).1, kJ_x (J := J) (eM_86 (by omega)).2, (eM_86 (by omega)).1, (eM_86 (by omega)).2]
    exact d j (by omega)
/-- the class tells what the reference has told before -/
theorem LGq_em {w q s : Nat} {I J : zI} (h : LGq w (q + 1) s I J) (hw : w < 10000) : LGq w q (s + 1) (eC I s (cdOf w 0)) J ∧ oJ J s = w ∧ kJ J s = 0 := by
  obtain ⟨a, b, c, d, e⟩ := h
  have e1 : oJ J s = w := by
    unfold oJ
    rw [(e s (by omega) (by omega)).1, zx_nI (by omega)]
  have e2 : kJ J s = 0 := by
    unfold kJ
    rw [(e s (by omega) (by omega)).2, zx_nI (by omega)]
  refine ⟨⟨by omega, eC_at.2, by rw [c, show s + 1 + q = s + (q + 1) from by omega], fun j hj => ?_, fun j u1 u2 => e j (by omega) (by omega)⟩, e1, e2⟩
  by_cases ej : j = s
  · subst ej
    rw [e1, e2]
    exact ⟨eC_at.1, e j (by omega) (by omega)⟩
  · rw [eC_61 ej]
    exact d j (by omega)
theorem LGq_x {w q s : Nat} {I J I' J' : zI} (h : LGq w q s I J) (h7 : I' 56 7 = I 56 7) (h61 : ∀ j, j < s → I' 61 j = I 61 j) (h27 : J' 72 27 = J 72 27) (h86 : ∀ j, j < s + q → J' 86 (800 + j) = J 86 (800 + j) ∧ J' 87 (800 + j) = J 87 (800 + j)) : LGq w q s I' J' := by
  obtain ⟨a, b, c, d, e⟩ := h
  refine ⟨a, h7.trans b, h27.trans c, fun j hj => ?_, fun j u1 u2 => ?_⟩
  · obtain ⟨y1, y2⟩ := h86 j (by omega)
    rw [h61 j hj, oJ_x y1, kJ_x y2, y1, y2]
    exact d j hj
  · obtain ⟨y1, y2⟩ := h86 j u2
    rw [y1, y2]
    exact e j u1 u2
/-- what the codes from a to b do -/
def TY (J : zI) (a b : Nat) (st st' : List Nat) : Prop := a ≤ b ∧ tyR (oJ J) (kJ J) (b - a) a st st'
theorem tyR_cg {o k o' k' : Nat → Nat} : ∀ (n i : Nat) (s s' : List Nat), (∀ j, i ≤ j → j < i + n → o' j = o j ∧ k' j = k j) → tyR o k n i s s' → tyR o' k' n i s s' := by
  intro n
  induction n with
  | zero => intro i s s' _ h; exact h
  | succ n ih =>
    rintro i s s' he ⟨t, h1, h2⟩
    obtain ⟨e1, e2⟩ := he i (by omega) (by omega)
    exact ⟨t, by rw [e1, e2]; exact h1, ih (i + 1) t s' (fun j u1 u2 => he j (by omega) (by omega)) h2⟩
theorem tyR_app {o k : Nat → Nat} : ∀ (n n' i : Nat) (s t u : List Nat), tyR o k n i s t → tyR o k n' (i + n) t u → tyR o k (n + n') i s u := by
  intro n
  induction n with
  | zero =>
    intro n' i s t u h1 h2
    have e : s = t := h1
    subst e
    rw [Nat.zero_add]
    exact h2
  | succ n ih =>
    rintro n' i s t u ⟨v, h1, h2⟩ h3
    rw [show n + 1 + n' = n + n' + 1 from by omega]
    exact ⟨v, h1, ih n' (i + 1) v t u h2 (by rw [show i + 1 + n = i + (n + 1) from by omega]; exact h3)⟩
theorem TY_t {J : zI} {a b c : Nat} {s t u : List Nat} (h : TY J a b s t) (h' : TY J b c t u) : TY J a c s u := by
  obtain ⟨h1, h2⟩ := h
  obtain ⟨h3, h4⟩ := h'
  refine ⟨by omega, ?_⟩
  have q := tyR_app (b - a) (c - b) a s t u h2 (by rw [show a + (b - a) = b from by omega]; exact h4)
  rw [show b - a + (c - b) = c - a from by omega] at q
  exact q
theorem TY_x {J J' : zI} {a b : Nat} {s t : List Nat} (h : TY J a b s t) (h86 : ∀ j, j < b → J' 86 (800 + j) = J 86 (800 + j) ∧ J' 87 (800 + j) = J 87 (800 + j)) : TY J' a b s t := by
  obtain ⟨h1, h2⟩ := h
  exact ⟨h1, tyR_cg _ _ _ _ (fun j u1 u2 => ⟨oJ_x (h86 j (by omega)).1, kJ_x (h86 j (by omega)).2⟩) h2⟩
theorem TY_1 {J : zI} {a : Nat} {s t : List Nat} (h : ty1 (oJ J a) (kJ J a) s t) : TY J a (a + 1) s t := by
  refine ⟨by omega, ?_⟩
  rw [show a + 1 - a = 1 from by omega]
  exact ⟨t, h, rfl⟩
theorem TY_r {J : zI} {a : Nat} {s : List Nat} : TY J a a s s := by
  refine ⟨by omega, ?_⟩
  rw [show a - a = 0 from by omega]
  rfl
/-- what reading leaves -/
def GFc (s : Nat) (I I' : zI) : Prop := (∀ a, a ≠ 1 → a ≠ 56 → a ≠ 61 → I' a = I a) ∧ (∀ k, k ≠ 4 → k ≠ 6 → k ≠ 7 → I' 1 k = I 1 k) ∧ (∀ k, k ≠ 7 → I' 56 k = I 56 k) ∧ ∀ j, j < s → I' 61 j = I 61 j
def GFm (s : Nat) (J J' : zI) : Prop := (∀ a, a ≠ 72 → a ≠ 86 → a ≠ 87 → J' a = J a) ∧ (∀ k, k ≠ 14 → k ≠ 15 → k ≠ 16 → k ≠ 17 → k ≠ 27 → k ≠ 31 → k ≠ 32 → J' 72 k = J 72 k) ∧ ∀ j, j < 800 + s → J' 86 j = J 86 j ∧ J' 87 j = J 87 j
theorem GFc_t {s s' : Nat} {I I' I'' : zI} (h : GFc s I I') (h' : GFc s' I' I'') (hs : s ≤ s') : GFc s I I'' := ⟨fun a u1 u2 u3 => (h'.1 a u1 u2 u3).trans (h.1 a u1 u2 u3), fun k u1 u2 u3 => (h'.2.1 k u1 u2 u3).trans (h.2.1 k u1 u2 u3), fun k u => (h'.2.2.1 k u).trans (h.2.2.1 k u), fun j hj => (h'.2.2.2 j (by omega)).trans (h.2.2.2 j hj)⟩
theorem GFm_t {s s' : Nat} {J J' J'' : zI} (h : GFm s J J') (h' : GFm s' J' J'') (hs : s ≤ s') : GFm s J J'' := ⟨fun a u1 u2 u3 => (h'.1 a u1 u2 u3).trans (h.1 a u1 u2 u3), fun k u1 u2 u3 u4 u5 u6 u7 => (h'.2.1 k u1 u2 u3 u4 u5 u6 u7).trans (h.2.1 k u1 u2 u3 u4 u5 u6 u7), fun j hj => ⟨((h'.2.2 j (by omega)).1).trans (h.2.2 j hj).1, ((h'.2.2 j (by omega)).2).trans (h.2.2 j hj).2⟩⟩
theorem GFc_p {s : Nat} {I I' : zI} (h : PFc I I') : GFc s I I' := ⟨fun a u1 _ _ => h.1 a u1, h.2, fun k _ => by rw [h.1 56 (by omega)], fun j _ => by rw [h.1 61 (by omega)]⟩
theorem GFm_p {s : Nat} {J J' : zI} (h : PFm J J') : GFm s J J' := ⟨fun a u1 _ _ => h.1 a u1, fun k u1 u2 u3 u4 _ u6 u7 => h.2 k u1 u2 u3 u4 u6 u7, fun j _ => ⟨by rw [h.1 86 (by omega)], by rw [h.1 87 (by omega)]⟩⟩
theorem GFc_e {s s' : Nat} {I : zI} {a : Int32} (hs : s ≤ s') : GFc s I (eC I s' a) := ⟨fun b u1 u2 u3 => eC_ne ⟨u2, u3⟩, fun k _ _ _ => by rw [eC_ne (by omega)], fun k hk => eC_56 hk, fun j hj => eC_61 (by omega)⟩
theorem GFm_e {s s' : Nat} {J : zI} {w v : Int32} (hs : s ≤ s') : GFm s J (eM J s' w v) := ⟨fun b u1 u2 u3 => eM_ne ⟨u1, u2, u3⟩, fun k _ _ _ _ u5 _ _ => eM_72 u5, fun j hj => eM_86 (by omega)⟩
theorem LGq_p {w q s : Nat} {I J I' J' : zI} (h : LGq w q s I J) (hc : PFc I I') (hm : PFm J J') : LGq w q s I' J' := LGq_x h (by rw [hc.1 56 (by omega)]) (fun j _ => by rw [hc.1 61 (by omega)]) (hm.2 27 (by omega) (by omega) (by omega) (by omega) (by omega) (by omega)) (fun j _ => ⟨by rw [hm.1 86 (by omega)], by rw [hm.1 87 (by omega)]⟩)
theorem TKS_e {f : Nat → Int32} {L c m s : Nat} {a w v : Int32} {I J : zI} (h : TKS 0 f L c m I J) : TKS 0 f L c m (eC I s a) (eM J s w v) := TKS_of h (eC_ne (by omega)) (eC_ne (by omega)) (eC_ne (by omega)) (eC_ne (by omega)) (fun k _ _ => eM_72 (by omega)) (eM_ne (by omega)) (eM_ne (by omega))
theorem TKS_eC {f : Nat → Int32} {L c m s : Nat} {a : Int32} {I J : zI} (h : TKS 0 f L c m I J) : TKS 0 f L c m (eC I s a) J := TKS_of h (eC_ne (by omega)) (eC_ne (by omega)) (eC_ne (by omega)) (eC_ne (by omega)) (fun _ _ _ => rfl) rfl rfl
