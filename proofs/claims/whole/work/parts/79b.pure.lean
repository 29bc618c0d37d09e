/-! image between calls -/
theorem kz_image (g : zg) {a : Int32} (ha : a = 0 ∨ a = 1) {M : zM} (h : Inv g M.1) : OKz g (fun v N => zMt yX11_image cX11_image 2 (some .boolean) 3 34 2455 [.ref 0, .int a] (zem g M) (some (.int v)) N) (fun g => X_X12_image g [.ref 72, .int a]) := by
  obtain ⟨u, v⟩ := g
  rcases ha with ha | ha <;> subst ha <;> cases u
  · obtain ⟨I2, r1, r2⟩ := image_n (false, v) (I := M.1) (L := M.2) h (fun c => Bool.noConfusion c)
    exact ⟨0, (false, v), M.1, M.2, I2, ⟨fun h => h, fun h => h⟩, pa_imgn, r1, r2⟩
  · obtain ⟨I2, r1, r2⟩ := image_b (true, v) (I := M.1) (L := M.2) h rfl
    exact ⟨1, (true, v), _, M.2, I2, ⟨fun h => h, fun h => h⟩, pa_imgb rfl (backW_s (true, v) rfl M) (x_X8_forget_0 (true, v) _), r1, r2⟩
  · have hb : InvB (imgM (false, v) M).1 := by
      refine InvB_of (Inv_B h) (fun a ha _ => imgM_ne (by omega)) (fun k _ _ _ _ => ?_)
      rw [imgM_ne (by omega)]
    obtain ⟨I2, r1, r2⟩ := image_t (true, v) (I := (imgM (false, v) M).1) (L := (imgM (false, v) M).2) hb rfl
    exact ⟨1, (true, v), _, (imgM (false, v) M).2, I2, ⟨fun _ => rfl, fun h => h⟩, pa_imgc rfl (takeW_s (true, v) rfl (imgM (false, v) M)), r1, r2⟩
  · obtain ⟨I2, r1, r2⟩ := image_t (true, v) (I := M.1) (L := M.2) (Inv_B h) rfl
    exact ⟨1, (true, v), _, M.2, I2, ⟨fun h => h, fun h => h⟩, pa_imgt rfl (takeW_s (true, v) rfl M), r1, r2⟩
