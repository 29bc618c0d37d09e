/-! PURE ROWS: what waits in the reference -/
def PD : List Nat → (Nat → Int32) → Prop
  | [], _ => True
  | x :: r, row => row r.length = nI x ∧ PD r row
def PS (p : List Nat) (op : Nat) (J : zI) : Prop := p.length ≤ 40 ∧ J 72 30 = nI p.length ∧ J 72 28 = nI op ∧ (∀ x, x ∈ p → x < 100) ∧ PD p (J 88)
theorem PD_x {row row' : Nat → Int32} : ∀ {p : List Nat}, PD p row → (∀ j, j < p.length → row' j = row j) → PD p row' := by
  intro p
  induction p with
  | nil => intro _ _; exact True.intro
  | cons x r ih =>
    rintro ⟨h1, h2⟩ he
    have hl : (x :: r).length = r.length + 1 := rfl
    exact ⟨(he r.length (by omega)).trans h1, ih h2 (fun j hj => he j (by omega))⟩
theorem PS_x {p : List Nat} {op : Nat} {J J' : zI} (h : PS p op J) (h30 : J' 72 30 = J 72 30) (h28 : J' 72 28 = J 72 28) (h88 : J' 88 = J 88) : PS p op J' := ⟨h.1, h30.trans h.2.1, h28.trans h.2.2.1, h.2.2.2.1, by rw [h88]; exact h.2.2.2.2⟩
theorem PS_g {p : List Nat} {op s : Nat} {J J' : zI} (h : PS p op J) (hf : GFm s J J') : PS p op J' := PS_x h (hf.2.1 30 (by omega) (by omega) (by omega) (by omega) (by omega) (by omega) (by omega)) (hf.2.1 28 (by omega) (by omega) (by omega) (by omega) (by omega) (by omega) (by omega)) (hf.1 88 (by omega) (by omega) (by omega))
/-- what reading tests leaves -/
def EFm (s : Nat) (J J' : zI) : Prop := (∀ a, a ≠ 72 → a ≠ 86 → a ≠ 87 → a ≠ 88 → J' a = J a) ∧ (∀ k, k ≠ 14 → k ≠ 15 → k ≠ 16 → k ≠ 17 → k ≠ 27 → k ≠ 28 → k ≠ 30 → k ≠ 31 → k ≠ 32 → J' 72 k = J 72 k) ∧ ∀ j, j < 800 + s → J' 86 j = J 86 j ∧ J' 87 j = J 87 j
theorem EFm_g {s : Nat} {J J' : zI} (h : GFm s J J') : EFm s J J' := ⟨fun a u1 u2 u3 _ => h.1 a u1 u2 u3, fun k u1 u2 u3 u4 u5 _ _ u6 u7 => h.2.1 k u1 u2 u3 u4 u5 u6 u7, h.2.2⟩
theorem EFm_t {s s' : Nat} {J J' J'' : zI} (h : EFm s J J') (h' : EFm s' J' J'') (hs : s ≤ s') : EFm s J J'' := ⟨fun a u1 u2 u3 u4 => (h'.1 a u1 u2 u3 u4).trans (h.1 a u1 u2 u3 u4), fun k u1 u2 u3 u4 u5 u6 u7 u8 u9 => (h'.2.1 k u1 u2 u3 u4 u5 u6 u7 u8 u9).trans (h.2.1 k u1 u2 u3 u4 u5 u6 u7 u8 u9), fun j hj => ⟨((h'.2.2 j (by omega)).1).trans (h.2.2 j hj).1, ((h'.2.2 j (by omega)).2).trans (h.2.2 j hj).2⟩⟩
theorem EFm_u {s k : Nat} {J : zI} {v : Int32} (hk : k = 28 ∨ k = 30) : EFm s J (zu J 72 k v) := ⟨fun a u1 _ _ _ => zu_ne u1, fun i _ _ _ _ _ u6 u7 _ _ => zu_ne2 (by omega), fun j _ => ⟨zu_ne1 (by omega), zu_ne1 (by omega)⟩⟩
theorem EFm_w {s k : Nat} {J : zI} {v : Int32} : EFm s J (zu J 88 k v) := ⟨fun a _ _ _ u => zu_ne u, fun i _ _ _ _ _ _ _ _ _ => zu_ne1 (by omega), fun j _ => ⟨zu_ne1 (by omega), zu_ne1 (by omega)⟩⟩
theorem TKS_E {f : Nat → Int32} {L c m : Nat} {I J J' : zI} (h : TKS 0 f L c m I J) (m72 : ∀ k, 13 ≤ k → k ≤ 17 → J' 72 k = J 72 k) (h79 : J' 79 = J 79) (h80 : J' 80 = J 80) : TKS 0 f L c m I J' := TKS_of h rfl rfl rfl rfl m72 h79 h80
theorem waitsM_s (g : zg) {p : List Nat} {op w : Nat} {N : zM} (h : PS p op N.1) (hp : p.length < 40) (hw : w < 100) : X_X12_waits g [.ref 72, .int (nI w)] N = some (none, ((zu (zu N.1 88 p.length (nI w)) 72 30 (nI (p.length + 1))), N.2)) ∧ PS (w :: p) op (zu (zu N.1 88 p.length (nI w)) 72 30 (nI (p.length + 1))) := by
  obtain ⟨a1, a2, a3, a4, a5⟩ := h
  constructor
  · rw [x_X12_waits_0, a2, zb_nI (by omega), decide_eq_true hp, bif_t, zx_nI (by omega), nI_s1]
  · refine ⟨by rw [List.length_cons]; omega, by rw [zu_eq, List.length_cons], by rw [zu_ne2 (by omega), zu_ne1 (by omega)]; exact a3, ?_, ?_, ?_⟩
    · intro x hx
      rcases List.mem_cons.1 hx with e | e
      · rw [e]
        exact hw
      · exact a4 x e
    · rw [zu_ne1 (by omega), zu_eq]
    · refine PD_x a5 (fun j hj => ?_)
      rw [zu_ne1 (by omega), zu_ne2 (by omega)]
theorem setl_z (g : zg) (a : Int32) (N : zM) : X_X12_settles g [.ref 72, .int a] N = zX (t_X12_settles g) 0 [some (.ref 72), some (.int a)] [] N := (x_X12_settles_0 g a N).trans (e_X12_settles_0 g a N).symm
theorem nI_q1 (n : Nat) : (nI (n + 1) - 1 : Int32) = nI n := by
  rw [show (1 : Int32) = nI 1 from rfl, nI_sub (by omega), show n + 1 - 1 = n from by omega]
/-- what waits is told, as long as it is w -/
theorem set_al (g : zg) {w s : Nat} {p : List Nat} {I : zI} (hw : w < 100) (hp : ∀ x r, p = x :: r → ¬ x = w) (q : Nat) : ∀ (k op op' : Nat) (N : zM), op' = op + (if w = 9 then q else 0) → PS (List.replicate q w ++ p) op' N.1 → LGq w k s I N.1 → s + k + q ≤ 400 → ∃ J', X_X12_settles g [.ref 72, .int (nI w)] N = some (none, (J', N.2)) ∧ PS p op J' ∧ LGq w (k + q) s I J' ∧ EFm (s + k) N.1 J' ∧ ∀ i, i ≠ 27 → i ≠ 28 → i ≠ 30 → J' 72 i = N.1 72 i := by
  induction q with
  | zero =>
    intro k op op' N ho h hl hk
    have eop : op' = op := by
      rw [ho]
      split <;> rfl
    subst eop
    refine ⟨N.1, ?_, h, hl, ⟨fun _ _ _ _ _ => rfl, fun _ _ _ _ _ _ _ _ _ _ => rfl, fun _ _ => ⟨rfl, rfl⟩⟩, fun _ _ _ _ => rfl⟩
    have h' : PS p op' N.1 := h
    obtain ⟨a1, a2, a3, a4, a5⟩ := h'
    rw [x_X12_settles_0, a2, cGt0_nI (by omega)]
    cases p with
    | nil =>
      rw [decide_eq_false (by rw [List.length_nil]; omega), bif_f]
    | cons x r =>
      have hl : (x :: r).length = r.length + 1 := rfl
      have hx := a4 x (List.mem_cons_self)
      rw [hl, decide_eq_true (by omega), bif_t, nI_q1, zb_nI (by omega), decide_eq_true (by omega), bif_t, zx_nI (by omega), a5.1, cEq_nI (by omega) (by omega), decide_eq_false (hp x r rfl), bif_f]
  | succ q ih =>
    intro k op op' N ho h hl hk
    obtain ⟨a1, a2, a3, a4, a5⟩ := h
    have hlen : (List.replicate (q + 1) w ++ p).length = (List.replicate q w ++ p).length + 1 := by
      rw [List.length_append, List.length_append, List.length_replicate, List.length_replicate]
      omega
    have e0 : List.replicate (q + 1) w ++ p = w :: (List.replicate q w ++ p) := rfl
    rw [hlen] at a1 a2
    rw [e0] at a4 a5
    have n1 : (zu N.1 72 30 (nI (List.replicate q w ++ p).length)) 72 27 = nI (s + k) := by
      rw [zu_ne2 (by omega)]
      exact hl.2.2.1
    have em := emitsM_s g (N := ((zu N.1 72 30 (nI (List.replicate q w ++ p).length)), N.2)) n1 (by omega) (nI w) (nI 0)
    dsimp only at em
    have lg1 : LGq w (k + 1) s I (eM (zu N.1 72 30 (nI (List.replicate q w ++ p).length)) (s + k) (nI w) (nI 0)) := by
      obtain ⟨b1, b2, b3, b4, b5⟩ := hl
      refine ⟨by omega, b2, by rw [eM_at.2.2, show s + k + 1 = s + (k + 1) from by omega], fun j hj => ?_, fun j u1 u2 => ?_⟩
      · have y := eM_86 (J := zu N.1 72 30 (nI (List.replicate q w ++ p).length)) (s := s + k) (j := 800 + j) (w := nI w) (v := nI 0) (by omega)
        rw [zu_ne1 (by omega), zu_ne1 (by omega)] at y
        rw [oJ_x y.1, kJ_x y.2, y.1, y.2]
        exact b4 j hj
      · by_cases e : j = s + k
        · subst e
          exact ⟨eM_at.1, eM_at.2.1⟩
        · have y := eM_86 (J := zu N.1 72 30 (nI (List.replicate q w ++ p).length)) (s := s + k) (j := 800 + j) (w := nI w) (v := nI 0) (by omega)
          rw [zu_ne1 (by omega), zu_ne1 (by omega)] at y
          rw [y.1, y.2]
          exact b5 j u1 (by omega)
    have f1 : EFm (s + k) N.1 (eM (zu N.1 72 30 (nI (List.replicate q w ++ p).length)) (s + k) (nI w) (nI 0)) := EFm_t (EFm_u (by omega)) (EFm_g (GFm_e (Nat.le_refl _))) (Nat.le_refl _)
    have r88 : (eM (zu N.1 72 30 (nI (List.replicate q w ++ p).length)) (s + k) (nI w) (nI 0)) 88 = N.1 88 := by rw [eM_ne (by omega), zu_ne (by omega)]
    have r30 : (eM (zu N.1 72 30 (nI (List.replicate q w ++ p).length)) (s + k) (nI w) (nI 0)) 72 30 = nI (List.replicate q w ++ p).length := by rw [eM_72 (by omega), zu_eq]
    have r28 : (eM (zu N.1 72 30 (nI (List.replicate q w ++ p).length)) (s + k) (nI w) (nI 0)) 72 28 = nI op' := by rw [eM_72 (by omega), zu_ne2 (by omega)]; exact a3
    have top : X_X12_settles g [.ref 72, .int (nI w)] N = (bif cEq (nI w) 9 then X_X12_settles g [.ref 72, .int (nI w)] ((zu (eM (zu N.1 72 30 (nI (List.replicate q w ++ p).length)) (s + k) (nI w) (nI 0)) 72 28 (nI op' - 1)), N.2) else X_X12_settles g [.ref 72, .int (nI w)] (eM (zu N.1 72 30 (nI (List.replicate q w ++ p).length)) (s + k) (nI w) (nI 0), N.2)) := by
      rw [x_X12_settles_0, a2, cGt0_nI (by omega), decide_eq_true (by omega), bif_t, nI_q1, zb_nI (by omega), decide_eq_true (by omega), bif_t, zx_nI (by omega), a5.1, cEq_s rfl, bif_t, setl_z, setl_z]
      rw [show (Value.int 0) = Value.int (nI 0) from rfl, em, zbV_s]
      dsimp only
      rw [r28]
    by_cases hw9 : w = 9
    · rw [if_pos hw9] at ho
      rw [show cEq (nI w) 9 = true from by rw [hw9]; rfl, bif_t, ho, show (nI (op + (q + 1)) - 1 : Int32) = nI (op + q) from by rw [show op + (q + 1) = op + q + 1 from by omega, nI_q1]] at top
      have ps2 : PS (List.replicate q w ++ p) (op + q) (zu (eM (zu N.1 72 30 (nI (List.replicate q w ++ p).length)) (s + k) (nI w) (nI 0)) 72 28 (nI (op + q))) := ⟨by omega, by rw [zu_ne2 (by omega)]; exact r30, zu_eq, fun x hx => a4 x (List.mem_cons_of_mem _ hx), by rw [zu_ne (by omega), r88]; exact a5.2⟩
      have lg2 : LGq w (k + 1) s I (zu (eM (zu N.1 72 30 (nI (List.replicate q w ++ p).length)) (s + k) (nI w) (nI 0)) 72 28 (nI (op + q))) := LGq_x lg1 rfl (fun _ _ => rfl) (zu_ne2 (by omega)) (fun j _ => ⟨zu_ne1 (by omega), zu_ne1 (by omega)⟩)
      obtain ⟨J', z1, z2, z3, z4, z5⟩ := ih (k + 1) op (op + q) ((zu (eM (zu N.1 72 30 (nI (List.replicate q w ++ p).length)) (s + k) (nI w) (nI 0)) 72 28 (nI (op + q))), N.2) (by rw [if_pos hw9]) ps2 lg2 (by omega)
      refine ⟨J', top.trans z1, z2, by rw [show k + (q + 1) = k + 1 + q from by omega]; exact z3, EFm_t f1 (EFm_t (EFm_u (by omega)) z4 (by omega)) (Nat.le_refl _), fun i u1 u2 u3 => ?_⟩
      rw [z5 i u1 u2 u3]
      dsimp only
      rw [zu_ne2 u2, eM_72 u1, zu_ne2 u3]
    · rw [if_neg hw9] at ho
      rw [show cEq (nI w) 9 = false from by rw [show (9 : Int32) = nI 9 from rfl, cEq_nI (by omega) (by omega), decide_eq_false hw9], bif_f] at top
      have ps2 : PS (List.replicate q w ++ p) op' (eM (zu N.1 72 30 (nI (List.replicate q w ++ p).length)) (s + k) (nI w) (nI 0)) := ⟨by omega, r30, r28, fun x hx => a4 x (List.mem_cons_of_mem _ hx), by rw [r88]; exact a5.2⟩
      obtain ⟨J', z1, z2, z3, z4, z5⟩ := ih (k + 1) op op' (eM (zu N.1 72 30 (nI (List.replicate q w ++ p).length)) (s + k) (nI w) (nI 0), N.2) (by rw [if_neg hw9]; exact ho) ps2 lg1 (by omega)
      refine ⟨J', top.trans z1, z2, by rw [show k + (q + 1) = k + 1 + q from by omega]; exact z3, EFm_t f1 z4 (by omega), fun i u1 u2 u3 => ?_⟩
      rw [z5 i u1 u2 u3]
      dsimp only
      rw [eM_72 u1, zu_ne2 u3]
