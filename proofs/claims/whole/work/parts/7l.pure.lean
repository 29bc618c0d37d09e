/-! the law's start: what the Statement gives -/
def zF1 : List Cond := flatC (Jvm.Cond.and given_1 narrow_1)
def zTm (i : Nat) : Term := Term.string (zTx.getD i ("", 0, "")).1 (zTx.getD i ("", 0, "")).2.1
def zBs (i : Nat) : Nat := [9, 109, 129, 94].getD i 0
theorem zf_ex : ∀ i, i < 4 → zF1[zBs i]? = some (Cond.exactly (zTm i) "java/lang/String") := by decide +kernel
theorem zf_co : ∀ i, i < 4 → zF1[zBs i + 1]? = some (Cond.eq (.field (zTm i) "java/lang/String" "coder" "B") (.int 0)) := by decide +kernel
theorem zf_ar : ∀ i, i < 4 → zF1[zBs i + 2]? = some (Cond.arrayOf (.field (zTm i) "java/lang/String" "value" "[B") .byte) := by decide +kernel
theorem zf_le : ∀ i, i < 4 → zF1[zBs i + 3]? = some (Cond.eq (.length (.field (zTm i) "java/lang/String" "value" "[B")) (.int (Int32.ofNat (zLen.getD i 0)))) := by decide +kernel
set_option maxRecDepth 20000 in
theorem zf_el : ∀ i, i < 4 → ∀ j, j < zLen.getD i 0 → zF1[zBs i + 4 + j]? = some (Cond.eq (.elem (.field (zTm i) "java/lang/String" "value" "[B") (.int (Int32.ofNat j))) (.int ((zByt.getD i []).getD j 0))) := by decide +kernel
theorem zf_len : ∀ i, i < 4 → zLen.getD i 0 < 2 ^ 31 := by decide +kernel
theorem zf_n01 : zF1[127]? = some (Cond.not (Cond.eq (zTm 0) (zTm 1))) := by decide +kernel
theorem zf_n02 : zF1[168]? = some (Cond.not (Cond.eq (zTm 0) (zTm 2))) := by decide +kernel
theorem zf_n03 : zF1[108]? = some (Cond.not (Cond.eq (zTm 0) (zTm 3))) := by decide +kernel
theorem zf_n12 : zF1[170]? = some (Cond.not (Cond.eq (zTm 1) (zTm 2))) := by decide +kernel
theorem zf_n31 : zF1[128]? = some (Cond.not (Cond.eq (zTm 3) (zTm 1))) := by decide +kernel
theorem zf_n32 : zF1[169]? = some (Cond.not (Cond.eq (zTm 3) (zTm 2))) := by decide +kernel
theorem zf_cs : zF1[4]? = some (Cond.eq (Term.static "java/lang/String" "COMPACT_STRINGS" "Z") (.int 1)) := by decide +kernel
theorem zf_sf : zF1[5]? = some (Cond.isRef (Term.static "jdk/internal/util/Preconditions" "SIOOBE_FORMATTER" "Ljava/util/function/BiFunction;")) := by decide +kernel
theorem zf_str : ∀ i q, zTx[i]? = some q → i < 4 ∧ zTm i = Term.string q.1 q.2.1 := by
  intro i q h
  match i, h with
  | 0, h => cases h; exact ⟨by omega, rfl⟩
  | 1, h => cases h; exact ⟨by omega, rfl⟩
  | 2, h => cases h; exact ⟨by omega, rfl⟩
  | 3, h => cases h; exact ⟨by omega, rfl⟩
  | n + 4, h => cases (show (none : Option (String × Nat × String)) = some q from h)
