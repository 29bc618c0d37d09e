/-! the law's start: classes, texts, the whole -/
theorem ci_all : ∀ ci, ci < 13 → Cond.instantiable (zcl ci).1 (zcl ci).2.2 ∈ zG := fun ci h => match ci, h with
  | 0, _ => ci_0
  | 1, _ => ci_1
  | 2, _ => ci_2
  | 3, _ => ci_3
  | 4, _ => ci_4
  | 5, _ => ci_5
  | 6, _ => ci_6
  | 7, _ => ci_7
  | 8, _ => ci_8
  | 9, _ => ci_9
  | 10, _ => ci_10
  | 11, _ => ci_11
  | 12, _ => ci_12
  | n + 13, h => absurd h (by omega)
theorem zn_any {w : Cond} (hw : w ∈ zNs) {A : Array Value} {U : State} (h : w.before A U = true) : va_Nw w U := by
  have hn := (List.mem_filter.mp hw).2
  cases w <;> first | exact va_Nw.of rfl h | cases hn
theorem vw_len : vwCl.length = 13 := by decide +kernel
theorem lw_stK {s : State} {b : Nat} (hts : ∀ w ∈ zG, w.before #[Value.ref b] s = true) (hov : (Cond.arrayOver (.object "SackedGlass$Court")).before #[Value.ref b] s = true) : ∃ (D : va_G) (cs : Nat → ClassId), va_K D vwCl (zTys cs) s := by
  obtain ⟨c0, k0, m0, f0, g0, h0⟩ := Cond.arrayClass_spec (hts _ cb_ai)
  obtain ⟨c1, k1, m1, f1, g1, h1⟩ := Cond.arrayClass_spec (hts _ cb_al)
  obtain ⟨comp, c2, k2, a1, a2, a3, a4, a5⟩ := Cond.arrayOver_spec hov
  have hq : ∀ ci : Nat, ∃ q : ClassId × (Nat → Nat), ci < 13 → u_Kn s (zcl ci).1 (zcl ci).2.1 (zcl ci).2.2 q.1 q.2 := by
    intro ci
    by_cases hci : ci < 13
    · obtain ⟨cC, iS, h⟩ := u_known (C := (zcl ci).1) (T := (zcl ci).2.1) (N := (zcl ci).2.2) (n := (zcl ci).2.2) hts (zin ci hci) (hts _ (ci_all ci hci))
      exact ⟨(cC, iS), fun _ => h⟩
    · exact ⟨(c0, fun _ => 0), fun h => absurd h hci⟩
  obtain ⟨q, hq⟩ := Classical.axiomOfChoice hq
  refine ⟨(fun ci => (q ci).1, fun ci => (q ci).2), fun i => if i = 0 then c0 else if i = 1 then c1 else c2, fun ci r hr => ?_, fun i r hr => ?_⟩
  · have hci : ci < 13 := by
      have := (List.getElem?_eq_some_iff.mp hr).1
      rw [vw_len] at this
      exact this
    rw [zcl_at hci] at hr
    cases hr
    exact hq ci hci
  · match i, hr with
    | 0, hr =>
      cases hr
      exact ⟨fun N z => ⟨(fun k h => by cases h), k0, g0, m0, h0⟩, f0⟩
    | 1, hr =>
      cases hr
      exact ⟨fun N z => ⟨(fun k h => by cases h), k1, g1, m1, h1⟩, f1⟩
    | 2, hr =>
      cases hr
      exact ⟨fun N z => ⟨(fun k h => by cases h), k2, a3, comp, a4⟩, k2, comp, a3, a4, a1, a5⟩
    | n + 3, hr => cases (show (none : Option (ClassId × FieldType)) = some r from hr)
theorem lw_tr : ∀ (i : Nat) (q : String × Nat × String), zTx[i]? = some q → Cond.stringRef q.1 q.2.1 q.2.2 ∈ lw_tbl := by
  intro i q h
  match i, h with
  | 0, h => cases h; decide +kernel
  | 1, h => cases h; decide +kernel
  | 2, h => cases h; decide +kernel
  | 3, h => cases h; decide +kernel
  | n + 4, h => cases (show (none : Option (String × Nat × String)) = some q from h)
theorem lw_t1 : Cond.laysStatic "java/lang/String" "COMPACT_STRINGS" "Z" ∈ lw_tbl := by decide +kernel
theorem lw_t2 : Cond.initialized "java/lang/String" ∈ lw_tbl := by decide +kernel
theorem lw_t3 : Cond.laysStatic "jdk/internal/util/Preconditions" "SIOOBE_FORMATTER" "Ljava/util/function/BiFunction;" ∈ lw_tbl := by decide +kernel
theorem lw_t4 : Cond.initialized "jdk/internal/util/Preconditions" ∈ lw_tbl := by decide +kernel
theorem lw_t5 : Cond.arrayOver (.object "SackedGlass$Court") ∈ lw_tbl := by decide +kernel
theorem lw_stS {s : State} {b : Nat} (hts : ∀ w ∈ lw_tbl, w.before #[Value.ref b] s = true) (hF : ∀ w ∈ zF1, w.before #[Value.ref b] s = true) : ∃ ψ : Nat → Nat, zStr (fun q => s.heap.size ≤ q) ψ s := by
  have hA : ∀ a : Nat, a < s.heap.size → ¬ s.heap.size ≤ a := fun a h => Nat.not_le.mpr h
  have hm : ∀ {k : Nat} {w : Cond}, zF1[k]? = some w → w.before #[Value.ref b] s = true := fun h => hF _ (List.mem_of_getElem? h)
  obtain ⟨adK, adV, hS, hE⟩ := vk_Sof (args := #[Value.ref b]) (s := s) (N := 4) (tm := zTm) (len := zLen) (byt := zByt) (A := fun q => s.heap.size ≤ q) zf_len (fun i hi => hm (zf_ex i hi)) (fun i hi => hm (zf_co i hi)) (fun i hi => hm (zf_ar i hi)) (fun i hi => hm (zf_le i hi)) (fun i hi j hj => hm (zf_el i hi j hj)) (fun i j hi hj hij => by
    match i, j, hi, hj, hij with
    | 0, 1, _, _, _ => exact Or.inl (hm zf_n01)
    | 0, 2, _, _, _ => exact Or.inl (hm zf_n02)
    | 0, 3, _, _, _ => exact Or.inl (hm zf_n03)
    | 1, 0, _, _, _ => exact Or.inr (hm zf_n01)
    | 1, 2, _, _, _ => exact Or.inl (hm zf_n12)
    | 1, 3, _, _, _ => exact Or.inr (hm zf_n31)
    | 2, 0, _, _, _ => exact Or.inr (hm zf_n02)
    | 2, 1, _, _, _ => exact Or.inr (hm zf_n12)
    | 2, 3, _, _, _ => exact Or.inr (hm zf_n32)
    | 3, 0, _, _, _ => exact Or.inr (hm zf_n03)
    | 3, 1, _, _, _ => exact Or.inl (hm zf_n31)
    | 3, 2, _, _, _ => exact Or.inl (hm zf_n32)
    | 0, 0, _, _, h => exact absurd rfl h
    | 1, 1, _, _, h => exact absurd rfl h
    | 2, 2, _, _, h => exact absurd rfl h
    | 3, 3, _, _, h => exact absurd rfl h
    | n + 4, _, h, _, _ => exact absurd h (by omega)
    | _, n + 4, _, h, _ => exact absurd h (by omega)) hA
  refine ⟨fun i => if i < 10 then adK i else adV (i - 10), fun i q hi => ?_, ⟨fun i hi => ?_, fun i j hi hj e => ?_⟩, ?_, ?_⟩
  · obtain ⟨h4, he⟩ := zf_str i q hi
    have ht := hE i h4
    rw [he] at ht
    have e : (if i < 10 then adK i else adV (i - 10)) = adK i := if_pos (by omega)
    dsimp only
    rw [e]
    exact vk_R.of (hts _ (lw_tr i q hi)) ht
  · have e1 : (if i < 10 then adK i else adV (i - 10)) = adK i := if_pos (by omega)
    have e2 : (if 10 + i < 10 then adK (10 + i) else adV (10 + i - 10)) = adV i := by
      rw [if_neg (by omega), show 10 + i - 10 = i by omega]
    dsimp only
    rw [e1, e2]
    exact hS.1 i hi
  · dsimp only at e
    rw [if_pos (show i < 10 by omega), if_pos (show j < 10 by omega)] at e
    exact hS.2 i j hi hj e
  · exact va_Zof (hts _ lw_t1) (hts _ lw_t2) (va_eqt (hm zf_cs)) hA
  · rcases va_Zqof (A := fun q => s.heap.size ≤ q) (hts _ lw_t3) (hts _ lw_t4) (hm zf_sf) hA with h | ⟨t, h⟩
    · exact ⟨.null, Or.inl rfl, h⟩
    · exact ⟨.ref t, Or.inr ⟨t, rfl⟩, h⟩
theorem whole_start {p : Program} {e : Env} {s : State} {m : MethodId} {below : List Frame} {meth : Method} {c : Code} (l : Launch) {b L : Nat} {xs : Nat → Int32} (hL : L ≤ 3072) (C0 : lw_At p s m meth c b L xs) : W p l e room_1 s m #[Value.ref b] below meth c s.heap [] 0 0 (lw_Z below #[Value.ref b] s) (entryFrame m ([Value.ref b] : List Value).toArray 4) := by
  obtain ⟨hx, hb, hr, hml, hown, hts, hX, hbl, hlocks, hgv⟩ := id C0
  have hG : ∀ w ∈ zG, w.before #[Value.ref b] s = true := fun w hw => hts w (List.mem_filter.mp hw).1
  obtain ⟨D, cs, hK⟩ := lw_stK hG (hts _ lw_t5)
  obtain ⟨ψ, hStr⟩ := lw_stS hts (flat_of_before _ hgv)
  have C : lwC p s m meth c D cs (fun q => s.heap.size ≤ q) ψ (fun x => if x = 150 then b else ψ (x - 1000)) b L xs := ⟨hx, hb, hr, hml, hown, hlocks, hG, ⟨hK, fun w hw => zn_any hw (hts w (List.mem_filter.mp hw).1), fun q h => h, hStr, va_AO.of (hts _ lw_t5)⟩, hX, ⟨hbl, Nat.not_le.mpr hbl, if_pos rfl⟩, fun q h => h⟩
  have hl := lv_entry ([.ref b]) (n := 4) (Nat.le_of_ble_eq_true rfl)
  rw [lg_entry_eq]
  generalize (lg_sl ([.ref b]) ++ List.replicate (4 - (lg_sl ([.ref b])).length) Slot.unset).toArray = ls at hl ⊢
  have hl : lv_has ls 4 [(0, .ref b)] := hl
  refine lw_all (l := l) (e := e) (below := below) C hL (fun x => if x = 150 then b else ψ (x - 1000)) s.heap [] ls ⟨fun _ _ => rfl, fun i => ?_⟩ (fun k q h => ?_) ⟨fun i j u v h => ?_, fun k q h => ?_⟩ va_S.rf ⟨hl.1, hl.2.1, fun i v hi => ?_⟩
  · dsimp only
    rw [if_neg (by omega), show 1000 + i - 1000 = i by omega]
  · cases (show (none : Option (Nat × va_E)) = some q from h)
  · cases (show (none : Option (Nat × va_E)) = some u from h)
  · cases (show (none : Option (Nat × va_E)) = some q from h)
  · match i, hi with
    | 0, hi =>
      cases hi
      exact hl.2.2 (0, .ref b) List.mem_cons_self
    | 1, hi => cases hi
    | 2, hi => cases hi
    | 3, hi => cases hi
    | n + 4, hi => cases (show (none : Option (Option Value)) = some (some v) from hi)
