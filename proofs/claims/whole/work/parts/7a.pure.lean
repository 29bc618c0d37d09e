/-! THE START: both objects as they are made -/
def zZ0 : ZM := (fun _ _ => 0, fun _ _ => 0, fun _ _ => none, [])
def zZA : ZM := mkX11_init 0 (nw zZ0 0)
def zZB : ZM := mkX12_init 72 (nw zZA 72)
theorem st_v0 : AVx zZ0 [] 0 0 := ⟨Nat.le_refl 0, rfl, fun x hx => absurd hx List.not_mem_nil⟩
theorem st_f (hi : Nat) : FRx [] 0 hi := fun _ _ _ h => absurd h List.not_mem_nil
set_option maxRecDepth 20000 in
theorem st_A : zMt yX11_init cX11_init 1 none 3 71 5267 [.ref 0] (nw zZ0 0) none zZA ∧ AVx zZA [] 0 72 := by
  refine ct_X11_init (x := 0) (AV_nw st_v0) (by omega) (st_f _) (by omega) ?_
  repeat' constructor
set_option maxRecDepth 20000 in
theorem st_B : zMt yX12_init cX12_init 1 none 1 28 15898 [.ref 72] (nw zZA 72) none zZB ∧ AVx zZB [] 0 101 := by
  refine ct_X12_init (x := 72) (AV_nw st_A.2) (by omega) (st_f _) (by omega) ?_
  repeat' constructor
