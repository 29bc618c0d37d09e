/-! IMAGE, printed by mk79.py -/
theorem nw_R {M : ZM} {a x : Nat} (h : x ≠ a) : (nw M a).2.2.1 x = M.2.2.1 x := zrR_ne h
theorem pt_R {M : ZM} {a k b x : Nat} (h : x ≠ a) : (ptR M a k b).2.2.1 x = M.2.2.1 x := zuR_ne h
theorem pi_R {M : ZM} {a k : Nat} {v : Int32} {x : Nat} : (ptI M a k v).2.2.1 x = M.2.2.1 x := rfl
theorem nw_I {M : ZM} {a x : Nat} (h : x ≠ a) : (nw M a).1 x = M.1 x := zr_ne h
theorem pt_I {M : ZM} {a k b x : Nat} : (ptR M a k b).1 x = M.1 x := rfl
theorem pi_I {M : ZM} {a k : Nat} {v : Int32} {x : Nat} (h : x ≠ a) : (ptI M a k v).1 x = M.1 x := zu_ne h
theorem rr_X3_init {y x : Nat} {w : Int32} {M : ZM} (h : x < y ∨ y + 1 < x) : (mkX3_init y w M).2.2.1 x = M.2.2.1 x := by
  unfold mkX3_init
  rw [pi_R, pi_R, pi_R, pi_R, pt_R (by omega), nw_R (by omega)]
theorem ri_X3_init {y x : Nat} {w : Int32} {M : ZM} (h : x < y ∨ y + 1 < x) : (mkX3_init y w M).1 x = M.1 x := by
  unfold mkX3_init
  rw [pi_I (by omega), pi_I (by omega), pi_I (by omega), pi_I (by omega), pt_I, nw_I (by omega)]
theorem rr_X4_init {y x : Nat} {M : ZM} (h : x < y ∨ y + 7 < x) : (mkX4_init y M).2.2.1 x = M.2.2.1 x := by
  unfold mkX4_init
  rw [pt_R (by omega), nw_R (by omega), pt_R (by omega), nw_R (by omega), pt_R (by omega), nw_R (by omega), pt_R (by omega), nw_R (by omega), pt_R (by omega), nw_R (by omega), pt_R (by omega), nw_R (by omega), pt_R (by omega), nw_R (by omega)]
theorem ri_X4_init {y x : Nat} {M : ZM} (h : x < y ∨ y + 7 < x) : (mkX4_init y M).1 x = M.1 x := by
  unfold mkX4_init
  rw [pt_I, nw_I (by omega), pt_I, nw_I (by omega), pt_I, nw_I (by omega), pt_I, nw_I (by omega), pt_I, nw_I (by omega), pt_I, nw_I (by omega), pt_I, nw_I (by omega)]
theorem rr_X7_init {y x : Nat} {M : ZM} (h : x < y ∨ y + 2 < x) : (mkX7_init y M).2.2.1 x = M.2.2.1 x := by
  unfold mkX7_init
  rw [pt_R (by omega), nw_R (by omega), pt_R (by omega), nw_R (by omega)]
theorem ri_X7_init {y x : Nat} {M : ZM} (h : x < y ∨ y + 2 < x) : (mkX7_init y M).1 x = M.1 x := by
  unfold mkX7_init
  rw [pt_I, nw_I (by omega), pt_I, nw_I (by omega)]
theorem rr_X0_init {y x : Nat} {M : ZM} (h : x < y ∨ y + 4 < x) : (mkX0_init y M).2.2.1 x = M.2.2.1 x := by
  unfold mkX0_init
  rw [pt_R (by omega), nw_R (by omega), pt_R (by omega), nw_R (by omega), pt_R (by omega), nw_R (by omega), pt_R (by omega), nw_R (by omega)]
theorem ri_X0_init {y x : Nat} {M : ZM} (h : x < y ∨ y + 4 < x) : (mkX0_init y M).1 x = M.1 x := by
  unfold mkX0_init
  rw [pt_I, nw_I (by omega), pt_I, nw_I (by omega), pt_I, nw_I (by omega), pt_I, nw_I (by omega)]
theorem rr_X1_init {y x : Nat} {M : ZM} (h : x < y ∨ y + 1 < x) : (mkX1_init y M).2.2.1 x = M.2.2.1 x := by
  unfold mkX1_init
  rw [pt_R (by omega), nw_R (by omega)]
theorem ri_X1_init {y x : Nat} {M : ZM} (h : x < y ∨ y + 1 < x) : (mkX1_init y M).1 x = M.1 x := by
  unfold mkX1_init
  rw [pt_I, nw_I (by omega)]
theorem rr_X5_init {y x : Nat} {M : ZM} (h : x < y ∨ y + 4 < x) : (mkX5_init y M).2.2.1 x = M.2.2.1 x := by
  unfold mkX5_init
  rw [pt_R (by omega), nw_R (by omega), pt_R (by omega), nw_R (by omega), pt_R (by omega), nw_R (by omega), pt_R (by omega), nw_R (by omega)]
theorem ri_X5_init {y x : Nat} {M : ZM} (h : x < y ∨ y + 4 < x) : (mkX5_init y M).1 x = M.1 x := by
  unfold mkX5_init
  rw [pt_I, nw_I (by omega), pt_I, nw_I (by omega), pt_I, nw_I (by omega), pt_I, nw_I (by omega)]
theorem rr_X6_init {y x : Nat} {M : ZM} (h : x < y ∨ y + 6 < x) : (mkX6_init y M).2.2.1 x = M.2.2.1 x := by
  unfold mkX6_init
  rw [pt_R (by omega), nw_R (by omega), pt_R (by omega), nw_R (by omega), pt_R (by omega), nw_R (by omega), pt_R (by omega), nw_R (by omega), pt_R (by omega), nw_R (by omega), pt_R (by omega), nw_R (by omega)]
theorem ri_X6_init {y x : Nat} {M : ZM} (h : x < y ∨ y + 6 < x) : (mkX6_init y M).1 x = M.1 x := by
  unfold mkX6_init
  rw [pt_I, nw_I (by omega), pt_I, nw_I (by omega), pt_I, nw_I (by omega), pt_I, nw_I (by omega), pt_I, nw_I (by omega), pt_I, nw_I (by omega)]
theorem rr_X10_init {y x : Nat} {M : ZM} (h : x < y ∨ y + 33 < x) : (mkX10_init y M).2.2.1 x = M.2.2.1 x := by
  unfold mkX10_init
  rw [pt_R (by omega), nw_R (by omega), pt_R (by omega), rr_X6_init (by omega), nw_R (by omega), pt_R (by omega), rr_X5_init (by omega), nw_R (by omega), pt_R (by omega), rr_X1_init (by omega), nw_R (by omega), pt_R (by omega), rr_X0_init (by omega), nw_R (by omega), pt_R (by omega), rr_X7_init (by omega), nw_R (by omega), pt_R (by omega), rr_X4_init (by omega), nw_R (by omega), pt_R (by omega), rr_X3_init (by omega), nw_R (by omega)]
theorem ri_X10_init {y x : Nat} {M : ZM} (h : x < y ∨ y + 33 < x) : (mkX10_init y M).1 x = M.1 x := by
  unfold mkX10_init
  rw [pt_I, nw_I (by omega), pt_I, ri_X6_init (by omega), nw_I (by omega), pt_I, ri_X5_init (by omega), nw_I (by omega), pt_I, ri_X1_init (by omega), nw_I (by omega), pt_I, ri_X0_init (by omega), nw_I (by omega), pt_I, ri_X7_init (by omega), nw_I (by omega), pt_I, ri_X4_init (by omega), nw_I (by omega), pt_I, ri_X3_init (by omega), nw_I (by omega)]
/-- the memory behind the making of an image -/
def imgZ (g : zg) (M : zM) : ZM := ptR (mkX10_init 206 (nw (zem g M) 206)) 0 7 206
def imgM (g : zg) (M : zM) : zM := ((imgZ g M).1, (imgZ g M).2.1)
theorem imgM_ne {g : zg} {M : zM} {x : Nat} (h : x < 206 ∨ 239 < x) : (imgM g M).1 x = M.1 x := by
  show (ptR (mkX10_init 206 (nw (zem g M) 206)) 0 7 206).1 x = _
  rw [pt_I, ri_X10_init (by omega), nw_I (by omega)]
  rfl
set_option maxRecDepth 20000 in
theorem imgZ_w {v : Bool} {M : zM} {x ci : Nat} (h1 : 206 ≤ x) (h2 : x < 240) (hs : zS x = (1, ci)) {k : Nat} (hk : k < (zcl ci).2.2) (hr : zIsR ci k = true) : (imgZ (false, v) M).2.2.1 x k = zRs (true, v) x k := by
  have e : x = 206 ∨ x = 207 ∨ x = 208 ∨ x = 209 ∨ x = 210 ∨ x = 211 ∨ x = 212 ∨ x = 213 ∨ x = 214 ∨ x = 215 ∨ x = 216 ∨ x = 217 ∨ x = 218 ∨ x = 219 ∨ x = 220 ∨ x = 221 ∨ x = 222 ∨ x = 223 ∨ x = 224 ∨ x = 225 ∨ x = 226 ∨ x = 227 ∨ x = 228 ∨ x = 229 ∨ x = 230 ∨ x = 231 ∨ x = 232 ∨ x = 233 ∨ x = 234 ∨ x = 235 ∨ x = 236 ∨ x = 237 ∨ x = 238 ∨ x = 239 := by omega
  rcases e with e | e | e | e | e | e | e | e | e | e | e | e | e | e | e | e | e | e | e | e | e | e | e | e | e | e | e | e | e | e | e | e | e | e
  · subst e
    have ec : ci = 10 := (congrArg Prod.snd hs).symm
    subst ec
    have hk : k < 8 := hk
    have ek : k = 0 ∨ k = 1 ∨ k = 2 ∨ k = 3 ∨ k = 4 ∨ k = 5 ∨ k = 6 ∨ k = 7 := by omega
    rcases ek with ek | ek | ek | ek | ek | ek | ek | ek
    · subst ek
      rfl
    · subst ek
      rfl
    · subst ek
      rfl
    · subst ek
      rfl
    · subst ek
      rfl
    · subst ek
      rfl
    · subst ek
      rfl
    · subst ek
      rfl
  · subst e
    have ec : ci = 3 := (congrArg Prod.snd hs).symm
    subst ec
    have hk : k < 13 := hk
    have ek : k = 0 ∨ k = 1 ∨ k = 2 ∨ k = 3 ∨ k = 4 ∨ k = 5 ∨ k = 6 ∨ k = 7 ∨ k = 8 ∨ k = 9 ∨ k = 10 ∨ k = 11 ∨ k = 12 := by omega
    rcases ek with ek | ek | ek | ek | ek | ek | ek | ek | ek | ek | ek | ek | ek
    · subst ek
      exact absurd hr (by decide)
    · subst ek
      rfl
    · subst ek
      exact absurd hr (by decide)
    · subst ek
      exact absurd hr (by decide)
    · subst ek
      exact absurd hr (by decide)
    · subst ek
      exact absurd hr (by decide)
    · subst ek
      exact absurd hr (by decide)
    · subst ek
      exact absurd hr (by decide)
    · subst ek
      exact absurd hr (by decide)
    · subst ek
      exact absurd hr (by decide)
    · subst ek
      exact absurd hr (by decide)
    · subst ek
      exact absurd hr (by decide)
    · subst ek
      exact absurd hr (by decide)
  · subst e
    have hf : (zS 208).1 = 1 := congrArg Prod.fst hs
    exact absurd hf (by decide)
  · subst e
    have ec : ci = 4 := (congrArg Prod.snd hs).symm
    subst ec
    have hk : k < 9 := hk
    have ek : k = 0 ∨ k = 1 ∨ k = 2 ∨ k = 3 ∨ k = 4 ∨ k = 5 ∨ k = 6 ∨ k = 7 ∨ k = 8 := by omega
    rcases ek with ek | ek | ek | ek | ek | ek | ek | ek | ek
    · subst ek
      rfl
    · subst ek
      rfl
    · subst ek
      rfl
    · subst ek
      rfl
    · subst ek
      rfl
    · subst ek
      rfl
    · subst ek
      rfl
    · subst ek
      exact absurd hr (by decide)
    · subst ek
      exact absurd hr (by decide)
  · subst e
    have hf : (zS 210).1 = 1 := congrArg Prod.fst hs
    exact absurd hf (by decide)
  · subst e
    have hf : (zS 211).1 = 1 := congrArg Prod.fst hs
    exact absurd hf (by decide)
  · subst e
    have hf : (zS 212).1 = 1 := congrArg Prod.fst hs
    exact absurd hf (by decide)
  · subst e
    have hf : (zS 213).1 = 1 := congrArg Prod.fst hs
    exact absurd hf (by decide)
  · subst e
    have hf : (zS 214).1 = 1 := congrArg Prod.fst hs
    exact absurd hf (by decide)
  · subst e
    have hf : (zS 215).1 = 1 := congrArg Prod.fst hs
    exact absurd hf (by decide)
  · subst e
    have hf : (zS 216).1 = 1 := congrArg Prod.fst hs
    exact absurd hf (by decide)
  · subst e
    have ec : ci = 7 := (congrArg Prod.snd hs).symm
    subst ec
    have hk : k < 4 := hk
    have ek : k = 0 ∨ k = 1 ∨ k = 2 ∨ k = 3 := by omega
    rcases ek with ek | ek | ek | ek
    · subst ek
      rfl
    · subst ek
      rfl
    · subst ek
      exact absurd hr (by decide)
    · subst ek
      exact absurd hr (by decide)
  · subst e
    have hf : (zS 218).1 = 1 := congrArg Prod.fst hs
    exact absurd hf (by decide)
  · subst e
    have hf : (zS 219).1 = 1 := congrArg Prod.fst hs
    exact absurd hf (by decide)
  · subst e
    have ec : ci = 0 := (congrArg Prod.snd hs).symm
    subst ec
    have hk : k < 5 := hk
    have ek : k = 0 ∨ k = 1 ∨ k = 2 ∨ k = 3 ∨ k = 4 := by omega
    rcases ek with ek | ek | ek | ek | ek
    · subst ek
      rfl
    · subst ek
      rfl
    · subst ek
      rfl
    · subst ek
      rfl
    · subst ek
      exact absurd hr (by decide)
  · subst e
    have hf : (zS 221).1 = 1 := congrArg Prod.fst hs
    exact absurd hf (by decide)
  · subst e
    have hf : (zS 222).1 = 1 := congrArg Prod.fst hs
    exact absurd hf (by decide)
  · subst e
    have hf : (zS 223).1 = 1 := congrArg Prod.fst hs
    exact absurd hf (by decide)
  · subst e
    have hf : (zS 224).1 = 1 := congrArg Prod.fst hs
    exact absurd hf (by decide)
  · subst e
    have ec : ci = 1 := (congrArg Prod.snd hs).symm
    subst ec
    have hk : k < 1 := hk
    have ek : k = 0 := by omega
    subst ek
    rfl
  · subst e
    have hf : (zS 226).1 = 1 := congrArg Prod.fst hs
    exact absurd hf (by decide)
  · subst e
    have ec : ci = 5 := (congrArg Prod.snd hs).symm
    subst ec
    have hk : k < 4 := hk
    have ek : k = 0 ∨ k = 1 ∨ k = 2 ∨ k = 3 := by omega
    rcases ek with ek | ek | ek | ek
    · subst ek
      rfl
    · subst ek
      rfl
    · subst ek
      rfl
    · subst ek
      rfl
  · subst e
    have hf : (zS 228).1 = 1 := congrArg Prod.fst hs
    exact absurd hf (by decide)
  · subst e
    have hf : (zS 229).1 = 1 := congrArg Prod.fst hs
    exact absurd hf (by decide)
  · subst e
    have hf : (zS 230).1 = 1 := congrArg Prod.fst hs
    exact absurd hf (by decide)
  · subst e
    have hf : (zS 231).1 = 1 := congrArg Prod.fst hs
    exact absurd hf (by decide)
  · subst e
    have ec : ci = 6 := (congrArg Prod.snd hs).symm
    subst ec
    have hk : k < 9 := hk
    have ek : k = 0 ∨ k = 1 ∨ k = 2 ∨ k = 3 ∨ k = 4 ∨ k = 5 ∨ k = 6 ∨ k = 7 ∨ k = 8 := by omega
    rcases ek with ek | ek | ek | ek | ek | ek | ek | ek | ek
    · subst ek
      rfl
    · subst ek
      rfl
    · subst ek
      rfl
    · subst ek
      rfl
    · subst ek
      rfl
    · subst ek
      rfl
    · subst ek
      exact absurd hr (by decide)
    · subst ek
      exact absurd hr (by decide)
    · subst ek
      exact absurd hr (by decide)
  · subst e
    have hf : (zS 233).1 = 1 := congrArg Prod.fst hs
    exact absurd hf (by decide)
  · subst e
    have hf : (zS 234).1 = 1 := congrArg Prod.fst hs
    exact absurd hf (by decide)
  · subst e
    have hf : (zS 235).1 = 1 := congrArg Prod.fst hs
    exact absurd hf (by decide)
  · subst e
    have hf : (zS 236).1 = 1 := congrArg Prod.fst hs
    exact absurd hf (by decide)
  · subst e
    have hf : (zS 237).1 = 1 := congrArg Prod.fst hs
    exact absurd hf (by decide)
  · subst e
    have hf : (zS 238).1 = 1 := congrArg Prod.fst hs
    exact absurd hf (by decide)
  · subst e
    have hf : (zS 239).1 = 1 := congrArg Prod.fst hs
    exact absurd hf (by decide)
theorem zEn_R2 {M : ZM} {I : zI} {Ln : zL} {R : zRt} {V : List Nat} {x : Nat} (h1 : M.1 x = I x) (h2 : M.2.1 x = Ln x) (hr1 : ∀ ci, zS x = (1, ci) → ∀ k, k < (zcl ci).2.2 → zIsR ci k = true → M.2.2.1 x k = R x k) (hr4 : (zS x).1 = 4 → ∀ k, M.2.2.1 x k = R x k) (cs : Nat → ClassId) (φ : Nat → Nat) : zEn cs φ M x = zEn cs φ (I, Ln, R, V) x := by
  unfold zEn
  dsimp only
  rw [h1, h2]
  unfold zen
  split
  · rename_i ci hs
    congr 2
    apply List.map_congr_left
    intro k hk
    cases hr : zIsR ci k
    · rfl
    · rw [hr1 ci hs k (List.mem_range.1 hk) hr]
  · rfl
  · rfl
  · rename_i n hs
    rw [show M.2.2.1 x = R x from funext (hr4 (by rw [hs]))]
  · rfl
theorem imgZ_R {v : Bool} {M : zM} {x k : Nat} (h : x < 206 ∨ 239 < x) : (imgZ (false, v) M).2.2.1 x k = zRs (true, v) x k := by
  show zuR (mkX10_init 206 (nw (zem (false, v) M) 206)).2.2.1 0 7 (some 206) x k = _
  by_cases h0 : x = 0
  · subst h0
    rw [zuR_row]
    dsimp only
    by_cases h7 : k = 7
    · subst h7
      rfl
    · rw [if_neg h7, rr_X10_init (by omega), nw_R (by omega)]
      show zRs (false, v) 0 k = _
      unfold zRs
      have n7 : (Nat.beq 0 0 && Nat.beq k 7) = false := by
        rw [Bool.and_eq_false_iff]
        exact Or.inr (nbeq_f h7)
      rw [n7]
      rfl
  · rw [zuR_ne h0, rr_X10_init (by omega), nw_R (by omega)]
    show zRs (false, v) x k = _
    unfold zRs
    have n7 : (Nat.beq x 0 && Nat.beq k 7) = false := by
      rw [Bool.and_eq_false_iff]
      exact Or.inl (nbeq_f h0)
    rw [n7]
    rfl
theorem img_fr (v : Bool) : FRx (zVs (false, v)) 206 240 := by
  intro z h1 h2 h
  rcases zVs_mem.1 h with a | ⟨a, _⟩ | ⟨_, a⟩
  · omega
  · cases a
  · omega
theorem img_S : zS 206 = (1, 10) ∧ zS 207 = (1, 3) := ⟨rfl, rfl⟩
theorem img_ct (v : Bool) (M : zM) : zMt yX10_init cX10_init 1 none 2 33 2447 [.ref 206] (nw (zem (false, v) M) 206) none (mkX10_init 206 (nw (zem (false, v) M) 206)) ∧ AVx (mkX10_init 206 (nw (zem (false, v) M) 206)) (zVs (false, v)) 206 240 := by
  have v0 : AVx (zem (false, v) M) (zVs (false, v)) 206 206 := AV_em
  refine ct_X10_init (x := 206) (AV_nw v0) (by omega) (img_fr v) (by omega) ?_
  repeat' constructor
theorem imgZ_eqv (v : Bool) (M : zM) : zEqv (imgZ (false, v) M) (zem (true, v) (imgM (false, v) M)) := by
  have av := (img_ct v M).2
  have eV : (imgZ (false, v) M).2.2.2 = zVs (false, v) ++ List.range' 206 34 := av.2.1
  refine ⟨?_, zVs_nd _, fun x => ?_, fun x hx cs φ => ?_⟩
  · rw [eV]
    cases v <;> decide +kernel
  · have e0 : x ∈ (mkX10_init 206 (nw (zem (false, v) M) 206)).2.2.2 ↔ x ∈ zVs (false, v) ∨ (206 ≤ x ∧ x < 240) := AV_mem av
    have e1 : x ∈ (imgZ (false, v) M).2.2.2 ↔ x ∈ zVs (false, v) ∨ (206 ≤ x ∧ x < 240) := e0
    rw [e1]
    show _ ↔ x ∈ zVs (true, v)
    rw [zVs_mem, zVs_mem]
    dsimp only
    constructor
    · rintro ((a | ⟨a, _⟩ | a) | a)
      · exact Or.inl a
      · cases a
      · exact Or.inr (Or.inr a)
      · exact Or.inr (Or.inl ⟨rfl, a⟩)
    · rintro (a | ⟨_, a⟩ | a)
      · exact Or.inl (Or.inl a)
      · exact Or.inr a
      · exact Or.inl (Or.inr (Or.inr a))
  · refine zEn_R2 rfl rfl (fun ci hs k hk hr => ?_) (fun hs k => ?_) cs φ
    · by_cases hx1 : x < 206 ∨ 239 < x
      · exact imgZ_R hx1
      · exact imgZ_w (by omega) (by omega) hs hk hr
    · by_cases hx1 : x < 206 ∨ 239 < x
      · exact imgZ_R hx1
      · have e : ∀ y : Fin 34, ¬ (zS (206 + y.val)).1 = 4 := by decide +kernel
        have q := e ⟨x - 206, by omega⟩
        dsimp only at q
        rw [show 206 + (x - 206) = x from by omega] at q
        exact absurd hs q
theorem ZW_eqv {own nm : String} {cc : ByteArray} {nL : Nat} {ret : Option FieldType} {d mc ms : Nat} {V0 : List Nat} {cells slots pc : Nat} {ls : List (Option Value)} {st : List Value} {M N : ZM} {r : Option Value} {M' : ZM} (h : zEqv M N) (k : ZW own nm cc nL ret d mc ms V0 cells slots pc ls st N r M') : ZW own nm cc nL ret d mc ms V0 cells slots pc ls st M r M' := by
  intro p l e s m args below meth c D cs A ψ φ0 φ H locs lsM hF hA hP hD hS hL
  exact k p l e s m args below meth c D cs A ψ φ0 φ H locs lsM hF (zEqv_A h hA) (zEqv_P h hP) (zEqv_D h hD) hS hL
