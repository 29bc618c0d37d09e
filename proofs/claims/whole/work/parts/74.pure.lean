/-! the council: made at its first use -/
def zrs (M : zM) (a : Nat) : zM := (zr M.1 a (fun _ => 0), zrL M.2 a (fun _ => 0))
/-- the council's rows, new -/
def couM (M : zM) : zM := zrs (zrs (zrs M 240) 241) 242
def dl_theCouncil : List (Nat × Instr × Nat) := [(0, .aload_n 0, 1), (1, .getfield 341, 3), (4, .ifnonnull 14, 3), (7, .aload_n 0, 1), (8, .new 275, 3), (11, .dup, 1), (12, .invokespecial 345, 3), (15, .putfield 341, 3), (18, .aload_n 0, 1), (19, .getfield 341, 3), (22, .areturn, 1)]
theorem dk_theCouncil : ∀ q ∈ dl_theCouncil, decode cX11_theCouncil q.1 = .ok q.2 := by decide +kernel
section ZAR
variable {own nm : String} {cc : ByteArray} {nL : Nat} {ret : Option FieldType} {d mc ms : Nat} {V0 : List Nat} {cells slots : Nat} {pc : Nat} {ls : List (Option Value)} {M : ZM}
theorem Z_aret {C : String} {x : Nat} (hr : ret = some (.object C)) (hc : cells = mc) (hs : slots = ms) (hd : decode cc pc = .ok (.areturn, 1)) : ZW own nm cc nL ret d mc ms V0 cells slots pc ls [.ref x] M (some (.ref x)) M := by
  subst hc; subst hs; subst hr
  intro p l e s m args below meth c D cs' A ψ φ0 φ H locs lsM hF hA hP hD hS hL
  exact W.aret (v := .ref (φ x)) hF.1 hF.2.1 hF.2.2.1 (Or.inl ⟨C, rfl⟩) (Or.inr ⟨_, rfl⟩) (fun t ht hw => ⟨φ, hA, rfl, by rw [ht]; exact hP, hD, hS.F ht⟩) (fun q hq => hS.2.2 q hq) hd (hlocks := hF.2.2.2.2.2.1)
end ZAR
theorem zEqv_r (g : zg) (M : zM) : zEqv (zem g M) (zem g M) := ⟨zVs_nd g, zVs_nd g, fun _ => Iff.rfl, fun _ _ _ _ => rfl⟩
theorem em_in {g : zg} {M : zM} {x : Nat} (h : x < 101) : x ∈ (zem g M).2.2.2 := zVs_mem.2 (Or.inl h)
/-- references that are the same where they count -/
theorem zEn_R {M : ZM} {I : zI} {Ln : zL} {R : zRt} {V : List Nat} {x : Nat} (h1 : M.1 x = I x) (h2 : M.2.1 x = Ln x) (hr : (zS x).1 = 1 ∨ (zS x).1 = 4 → ∀ k, M.2.2.1 x k = R x k) (cs : Nat → ClassId) (φ : Nat → Nat) : zEn cs φ M x = zEn cs φ (I, Ln, R, V) x := by
  unfold zEn
  dsimp only
  rw [h1, h2]
  by_cases c : (zS x).1 = 1 ∨ (zS x).1 = 4
  · rw [show M.2.2.1 x = R x from funext (hr c)]
  · unfold zen
    split
    · rename_i hs
      rw [hs] at c
      exact absurd (Or.inl rfl) c
    · rfl
    · rfl
    · rename_i hs
      rw [hs] at c
      exact absurd (Or.inr rfl) c
    · rfl
theorem cou_t {u : Bool} (M : zM) : zMt yX11_theCouncil cX11_theCouncil 1 (some (.object "SackedGlass$Council")) 2 3 7230 [.ref 0] (zem (u, true) M) (some (.ref 240)) (zem (u, true) M) := by
  refine zMt_of (by decide +kernel) rfl (Nat.le_of_ble_eq_true rfl) ?_
  show ZW _ _ _ _ _ _ _ _ _ 0 0 0 [some (.ref 0)] [] (zem (u, true) M) _ _
  refine ZW_wide (k := 3) (n := 7230) (by omega) (by omega) ?_
  refine ZW_sm (pc' := 1) (ls' := [some (.ref 0)]) (st' := [.ref 0]) (s_aload_n rfl (dk_theCouncil (0, .aload_n 0, 1) (List.mem_of_getElem? (i := 0) rfl))) (fun _ => rfl) ?_
  refine Z_get (em_in (by omega)) (ci := 11) (k := 8) rfl (by decide) (by decide) (Or.inl cf_RX11_341) (dk_theCouncil (1, .getfield 341, 3) (List.mem_of_getElem? (i := 1) rfl)) ?_
  show ZW _ _ _ _ _ _ _ _ _ _ _ _ _ [.ref 240] _ _ _
  refine ZW_sm (pc' := 18) (ls' := [some (.ref 0)]) (st' := []) (s_ifnonnull (pc := 4) (t := 18) (by decide) (dk_theCouncil (4, .ifnonnull 14, 3) (List.mem_of_getElem? (i := 2) rfl))) (fun _ => rfl) ?_
  refine ZW_sm (pc' := 19) (ls' := [some (.ref 0)]) (st' := [.ref 0]) (s_aload_n rfl (dk_theCouncil (18, .aload_n 0, 1) (List.mem_of_getElem? (i := 8) rfl))) (fun _ => rfl) ?_
  refine Z_get (em_in (by omega)) (ci := 11) (k := 8) rfl (by decide) (by decide) (Or.inl cf_RX11_341) (dk_theCouncil (19, .getfield 341, 3) (List.mem_of_getElem? (i := 9) rfl)) ?_
  show ZW _ _ _ _ _ _ _ _ _ _ _ _ _ [.ref 240] _ _ _
  exact Z_aret rfl rfl rfl (dk_theCouncil (22, .areturn, 1) (List.mem_of_getElem? (i := 10) rfl))
theorem cou_fr (u : Bool) : FRx (zVs (u, false)) 240 243 := by
  intro z h1 h2 h
  rcases zVs_mem.1 h with a | ⟨_, a⟩ | ⟨a, _⟩
  · omega
  · omega
  · cases a
theorem AV_em {g : zg} {M : zM} {b : Nat} : AVx (zem g M) (zVs g) b b := ⟨Nat.le_refl b, by rw [Nat.sub_self]; show zVs g = zVs g ++ []; rw [List.append_nil], zCl_em⟩
/-- the memory behind the making -/
def couZ (g : zg) (M : zM) : ZM := ptR (mkX2_init 240 (nw (zem g M) 240)) 0 8 240
theorem couZ_R {u : Bool} {M : zM} {x k : Nat} : (couZ (u, false) M).2.2.1 x k = if x = 240 then (if k = 0 then some 241 else if k = 1 then some 242 else none) else if x = 241 ∨ x = 242 then none else zRs (u, true) x k := by
  show zuR (zuR (zrR (zuR (zrR (zrR (zRs (u, false)) 240 (fun _ => none)) 241 (fun _ => none)) 240 0 (some 241)) 242 (fun _ => none)) 240 1 (some 242)) 0 8 (some 240) x k = _
  by_cases h0 : x = 0
  · subst h0
    rw [zuR_row]
    dsimp only
    by_cases h8 : k = 8
    · subst h8
      rfl
    · rw [if_neg h8, zuR_ne (by omega), zrR_ne (by omega), zuR_ne (by omega), zrR_ne (by omega), zrR_ne (by omega), if_neg (by omega), if_neg (by omega)]
      unfold zRs
      have n8 : (Nat.beq 0 0 && Nat.beq k 8) = false := by
        rw [Bool.and_eq_false_iff]
        right
        exact nbeq_f h8
      rw [n8]
      rfl
  · rw [zuR_ne h0]
    by_cases h1 : x = 240
    · subst h1
      rw [zuR_row]
      dsimp only
      rw [if_pos rfl]
      by_cases k1 : k = 1
      · subst k1
        rfl
      · rw [if_neg k1, zrR_ne (by omega), zuR_row]
        dsimp only
        by_cases k0 : k = 0
        · subst k0
          rfl
        · rw [if_neg k0, if_neg k0, if_neg k1, zrR_ne (by omega), zrR_row]
    · rw [zuR_ne h1, if_neg h1]
      by_cases h2 : x = 242
      · subst h2
        rw [zrR_row, if_pos (Or.inr rfl)]
      · rw [zrR_ne h2, zuR_ne h1]
        by_cases h3 : x = 241
        · subst h3
          rw [zrR_row, if_pos (Or.inl rfl)]
        · rw [zrR_ne h3, zrR_ne h1, if_neg (by omega)]
          unfold zRs
          have n8 : (Nat.beq x 0 && Nat.beq k 8) = false := by
            rw [Bool.and_eq_false_iff]
            left
            exact nbeq_f h0
          rw [n8]
          rfl
theorem couZ_eqv (u : Bool) (M : zM) : zEqv (couZ (u, false) M) (zem (u, true) (couM M)) := by
  have eV : (couZ (u, false) M).2.2.2 = zVs (u, false) ++ [240] ++ [241] ++ [242] := rfl
  refine ⟨?_, zVs_nd _, fun x => ?_, fun x hx cs φ => ?_⟩
  · rw [eV]
    cases u <;> decide +kernel
  · rw [eV]
    show _ ↔ x ∈ zVs (u, true)
    rw [List.mem_append, List.mem_append, List.mem_append, zVs_mem, zVs_mem, List.mem_singleton, List.mem_singleton, List.mem_singleton]
    dsimp only
    constructor
    · rintro ((((a | a | ⟨a, _⟩) | a) | a) | a)
      · exact Or.inl a
      · exact Or.inr (Or.inl a)
      · cases a
      · exact Or.inr (Or.inr ⟨rfl, by omega⟩)
      · exact Or.inr (Or.inr ⟨rfl, by omega⟩)
      · exact Or.inr (Or.inr ⟨rfl, by omega⟩)
    · rintro (a | a | ⟨_, a⟩)
      · exact Or.inl (Or.inl (Or.inl (Or.inl a)))
      · exact Or.inl (Or.inl (Or.inl (Or.inr (Or.inl a))))
      · have e : x = 240 ∨ x = 241 ∨ x = 242 := by omega
        rcases e with e | e | e
        · exact Or.inl (Or.inl (Or.inr e))
        · exact Or.inl (Or.inr e)
        · exact Or.inr e
  · refine zEn_R rfl rfl (fun hs k => ?_) cs φ
    rw [couZ_R]
    by_cases h1 : x = 240
    · subst h1
      rw [if_pos rfl]
      by_cases k0 : k = 0
      · subst k0
        rfl
      · by_cases k1 : k = 1
        · subst k1
          rfl
        · rw [if_neg k0, if_neg k1]
          have nb : Nat.blt k 2 = false := nblt_f (by omega)
          show none = (bif Nat.beq 240 240 && Nat.blt k 2 then some (241 + k) else none)
          rw [nb]
          rfl
    · rw [if_neg h1]
      by_cases h2 : x = 241 ∨ x = 242
      · rcases h2 with h2 | h2 <;> subst h2 <;> rcases hs with hs | hs <;> exact absurd hs (by decide)
      · rw [if_neg h2]
theorem cou_f {u : Bool} (M : zM) : zMt yX11_theCouncil cX11_theCouncil 1 (some (.object "SackedGlass$Council")) 2 3 7230 [.ref 0] (zem (u, false) M) (some (.ref 240)) (zem (u, true) (couM M)) := by
  refine zMt_eqv (M := zem (u, false) M) (M' := couZ (u, false) M) ?_ (zEqv_r _ _) (couZ_eqv u M)
  have v0 : AVx (zem (u, false) M) (zVs (u, false)) 240 240 := AV_em
  have v1 := AV_nw v0
  have u1 := ct_X2_init (x := 240) v1 (by omega) (cou_fr u) (by omega) ⟨rfl, rfl, rfl⟩
  refine zMt_of (by decide +kernel) rfl (Nat.le_of_ble_eq_true rfl) ?_
  show ZW _ _ _ _ _ _ _ _ _ 0 0 0 [some (.ref 0)] [] (zem (u, false) M) _ _
  refine ZW_sm (pc' := 1) (ls' := [some (.ref 0)]) (st' := [.ref 0]) (s_aload_n rfl (dk_theCouncil (0, .aload_n 0, 1) (List.mem_of_getElem? (i := 0) rfl))) (fun _ => rfl) ?_
  refine Z_get (em_in (by omega)) (ci := 11) (k := 8) rfl (by decide) (by decide) (Or.inl cf_RX11_341) (dk_theCouncil (1, .getfield 341, 3) (List.mem_of_getElem? (i := 1) rfl)) ?_
  show ZW _ _ _ _ _ _ _ _ _ _ _ _ _ [.null] _ _ _
  refine ZW_sm (pc' := 7) (ls' := [some (.ref 0)]) (st' := []) (s_ifnonnull (pc := 4) (t := 18) (by decide) (dk_theCouncil (4, .ifnonnull 14, 3) (List.mem_of_getElem? (i := 2) rfl))) (fun _ => rfl) ?_
  refine ZW_sm (pc' := 8) (ls' := [some (.ref 0)]) (st' := [.ref 0]) (s_aload_n rfl (dk_theCouncil (7, .aload_n 0, 1) (List.mem_of_getElem? (i := 3) rfl))) (fun _ => rfl) ?_
  refine Z_new (ci := 2) (a := 240) rfl (by decide) (AV_fr v0 (cou_fr u) (by omega) (by omega)) (AV_fr v0 (cou_fr u) (by omega) (by omega)) (by omega) (AV_cl v0) ⟨by omega, trivial⟩ ⟨by omega, trivial⟩ cc_RX11_275 ci_2 cn_2 ⟨by decide, by decide⟩ (dk_theCouncil (8, .new 275, 3) (List.mem_of_getElem? (i := 4) rfl)) ?_
  refine ZW_sm (pc' := 12) (ls' := [some (.ref 0)]) (st' := [.ref 240, .ref 240, .ref 0]) (s_dup (dk_theCouncil (11, .dup, 1) (List.mem_of_getElem? (i := 5) rfl))) (fun _ => rfl) ?_
  refine Z_callC (as := []) (b := 240) (st := [.ref 240, .ref 0]) (lo := 241) u1.1 (AV_sub v0 v1 (by omega)) (AV_sub v1 u1.2 (by omega)) (AV_new v1 u1.2) ⟨by omega, by omega, trivial⟩ ⟨by omega, trivial⟩ mi_X2_init (Or.inr cm_RX11_345) rfl ⟨by decide, by decide⟩ rfl ⟨by decide, by decide⟩ (dk_theCouncil (12, .invokespecial 345, 3) (List.mem_of_getElem? (i := 6) rfl)) ?_
  refine Z_ptR (AV_sub v0 u1.2 (by omega) 0 (em_in (by omega))) rfl (by decide) (by decide) rfl (Or.inl rfl) (fun _ => rfl) (fun _ => rfl) cf_RX11_341 (dk_theCouncil (15, .putfield 341, 3) (List.mem_of_getElem? (i := 7) rfl)) ?_
  refine ZW_sm (pc' := 19) (ls' := [some (.ref 0)]) (st' := [.ref 0]) (s_aload_n rfl (dk_theCouncil (18, .aload_n 0, 1) (List.mem_of_getElem? (i := 8) rfl))) (fun _ => rfl) ?_
  refine Z_get (AV_sub v0 u1.2 (by omega) 0 (em_in (by omega))) (ci := 11) (k := 8) rfl (by decide) (by decide) (Or.inl cf_RX11_341) (dk_theCouncil (19, .getfield 341, 3) (List.mem_of_getElem? (i := 9) rfl)) ?_
  show ZW _ _ _ _ _ _ _ _ _ _ _ _ _ [.ref 240] _ _ _
  exact Z_aret rfl rfl rfl (dk_theCouncil (22, .areturn, 1) (List.mem_of_getElem? (i := 10) rfl))
